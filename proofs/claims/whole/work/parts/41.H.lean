def wp_L_number (made : Int32) (size : Int32) (tooG : Int32) (out : (Nat → Int64)) (kept : (Nat → Int32)) (sizes : (Nat → Int32)) (rows : (Nat → Int32)) (taken : (Nat → Int32)) (p1 : Int32) (p2 : Int32) (post : Int32 → Int32 → Int32 → Int32 → (Nat → Int64) → (Nat → Int32) → (Nat → Int32) → (Nat → Int32) → (Nat → Int32) → Prop) : Prop :=
  wp_G_number made size tooG kept sizes rows taken p1 p2 (fun r1 made_2 size_3 tooG_4 kept_5 sizes_6 rows_7 taken_8 => vp_in 0 1 ∧ (∀ out_10 : (Nat → Int64), out_10 = vp_updL out (0 : Int32).toNatClampNeg (r1.toInt64) → (post 0 made_2 size_3 tooG_4 out_10 kept_5 sizes_6 rows_7 taken_8))) (fun E made_2 size_3 tooG_4 kept_5 sizes_6 rows_7 taken_8 => (E = "java/lang/ArithmeticException" → (post 1 made_2 size_3 tooG_4 out kept_5 sizes_6 rows_7 taken_8)) ∧ (¬ E = "java/lang/ArithmeticException" → ((E = "java/lang/IllegalStateException" → (post 2 made_2 size_3 tooG_4 out kept_5 sizes_6 rows_7 taken_8)) ∧ (¬ E = "java/lang/IllegalStateException" → (False)))))
set_option maxHeartbeats 4000000 in
set_option maxRecDepth 100000 in
theorem c_L_number (l : Launch) (D : va_G) (o0 a0 a1 a2 a3 a4 a5 : Nat) (co c1 c2 c4 c5 : ClassId) (sz : Nat) (made : Int32) (size : Int32) (tooG : Int32) (out : (Nat → Int64)) (kept : (Nat → Int32)) (sizes : (Nat → Int32)) (rows : (Nat → Int32)) (taken : (Nat → Int32)) (p1 : Int32) (p2 : Int32) (post : Int32 → Int32 → Int32 → Int32 → (Nat → Int64) → (Nat → Int32) → (Nat → Int32) → (Nat → Int32) → (Nat → Int32) → Prop) (hst : l.stackTraces = false) : Met l y_L_number (Cond.codeWith y_L_number b_L_number 5 (some .int) [(0, 10, 13, 13), (0, 10, 17, 15)] :: BIG) ({ frames := 8, cells := 2, slots := 12, locals := 150 }) (va_Pc [.ref a0, .int p1, .int p2, .ref o0] (pcH D vwCl (wO o0 a0 a1 a2 a3 a4 a5 co c1 c2 c4 c5 made size tooG out kept sizes rows taken) [(co, .long), (c1, .int), (c2, .int), (c4, .int), (c5, .int)] sz (wp_L_number made size tooG out kept sizes rows taken p1 p2 post))) (va_Qi (fun (r : Int32) (u : Int32 × Int32 × Int32 × (Nat → Int64) × (Nat → Int32) × (Nat → Int32) × (Nat → Int32) × (Nat → Int32)) => post r u.1 u.2.1 u.2.2.1 u.2.2.2.1 u.2.2.2.2.1 u.2.2.2.2.2.1 u.2.2.2.2.2.2.1 u.2.2.2.2.2.2.2) (fun u => atG D vwCl [(co, .long), (c1, .int), (c2, .int), (c4, .int), (c5, .int)] (va_A (wO o0 a0 a1 a2 a3 a4 a5 co c1 c2 c4 c5 made size tooG out kept sizes rows taken) sz) (wO o0 a0 a1 a2 a3 a4 a5 co c1 c2 c4 c5 (u.1) (u.2.1) (u.2.2.1) (u.2.2.2.1) (u.2.2.2.2.1) (u.2.2.2.2.2.1) (u.2.2.2.2.2.2.1) (u.2.2.2.2.2.2.2))) (va_A (wO o0 a0 a1 a2 a3 a4 a5 co c1 c2 c4 c5 made size tooG out kept sizes rows taken) sz)) 2 12 (va_A (wO o0 a0 a1 a2 a3 a4 a5 co c1 c2 c4 c5 made size tooG out kept sizes rows taken) sz) := by
  refine va_MetW (cc := b_L_number) (maxL := 5) (ret := (some .int)) (by decide) rfl ?_
  intro p e s m args below meth c s₁ B hml hv
  obtain ⟨rfl, hsz, hP, hK, hD0, hX, h⟩ := hv
  have hx := B.exec
  have hb := B.bytes
  have hr := B.returns
  have hat := atoms_spec (ws := (Cond.codeWith y_L_number b_L_number 5 (some .int) [(0, 10, 13, 13), (0, 10, 17, 15)] :: BIG)) B.pre
  have htab := vx_table (x := y_L_number) B (hat _ List.mem_cons_self)
  have hB : ∀ w ∈ BIG, w.before _ s = true := fun w h => hat w (List.mem_cons_of_mem _ h)
  have hown : s.vm.findClass R_L = some m.cls := findClass_of_methodNamed B.named
  have hlocks := B.notSynchronized
  subst hsz
  have hD := hD0.self (sz := s.heap.size)
  generalize hAe : va_A (wO o0 a0 a1 a2 a3 a4 a5 co c1 c2 c4 c5 made size tooG out kept sizes rows taken) s.heap.size = A at hD hX ⊢
  have hA : ∀ q : Nat, s.heap.size ≤ q → A q := fun q h => by rw [← hAe]; exact Or.inr h
  have hl := lv_entry ([.ref a0, .int p1, .int p2, .ref o0]) (n := 5) (Nat.le_of_ble_eq_true rfl)
  rw [lg_entry_eq]
  generalize (lg_sl ([.ref a0, .int p1, .int p2, .ref o0]) ++ List.replicate (5 - (lg_sl ([.ref a0, .int p1, .int p2, .ref o0])).length) Slot.unset).toArray = ls at hl ⊢
  have hl : lv_has ls 5 [(0, .ref a0), (1, .int p1), (2, .int p2), (3, .ref o0)] := hl
  refine W.cap (fun G Gi Ge => ?_)
  suffices hL : ∀ (H : Heap) (locs : List Loc), va_P D vwCl (wO o0 a0 a1 a2 a3 a4 a5 co c1 c2 c4 c5 made size tooG out kept sizes rows taken) H → va_S A s.heap H locs → G H locs (F0 m 0 ls []) from hL _ _ hP va_S.rf
  clear hP
  intro H locs hP hS
  refine Gi _ _ _ ?_
  unfold wp_L_number at h
  refine lv_aload_n hx hb d_L_number_0 rfl (lv_at hl 3 rfl) ?_
  refine lv_iconst (v := 0) hx hb d_L_number_1 (by decide) ?_
  refine lv_aload_n hx hb d_L_number_2 rfl (lv_at hl 0 rfl) ?_
  refine lv_iload_n hx hb d_L_number_3 rfl (lv_at hl 1 rfl) ?_
  refine lv_iload_n hx hb d_L_number_4 rfl (lv_at hl 2 rfl) ?_
  have hPc := hP.sub (ws' := (wG a0 a1 a2 a3 a4 a5 c1 c2 c4 c5 made size tooG kept sizes rows taken)) [1, 2, 3, 4, 5, 6] rfl
  have hDc := hD.sub (ws' := (wG a0 a1 a2 a3 a4 a5 c1 c2 c4 c5 made size tooG kept sizes rows taken)) [1, 2, 3, 4, 5, 6] (by decide) rfl
  have hKc := hK.sub (tys' := [(c1, .int), (c2, .int), (c4, .int), (c5, .int)]) [1, 2, 3, 4] rfl
  have hFc := va_free (wc := (wG a0 a1 a2 a3 a4 a5 c1 c2 c4 c5 made size tooG kept sizes rows taken)) hD hS hA [1, 2, 3, 4, 5, 6] rfl
  refine vx_calli (vx_runV (As := [.int p1, .int p2]) (rest := [.int 0, .ref o0]) ⟨hx, hb, hml, hown, hB⟩ (c_G_number l D a0 a1 a2 a3 a4 a5 c1 c2 c4 c5 H.size made size tooG kept sizes rows taken p1 p2 _ _ hst) (cwV 2 hB (goodV wd_48 wd_49 wd_50 wd_1 wd_51) rfl rfl rfl (by decide +kernel) ⟨Nat.le_of_ble_eq_true rfl, Nat.le_of_ble_eq_true rfl⟩) ⟨pcX_blind, va_recv hKc hPc (ci := 1) (q0 := 0) rfl rfl, pcX_pre hPc hKc hDc hS hX.1 hFc h⟩ rfl rfl hl.1 rfl (lv_room (Nat.le_of_ble_eq_true rfl)) d_L_number_5 ⟨Nat.le_of_ble_eq_true rfl, Nat.le_of_ble_eq_true rfl⟩) hS (fun q _ h => hFc q h) hFc (fun q _ h => hFc q h) (fun E ce q9 u t H1 locs ht hvm _ hBu hz1 hk1 hS hce hcv hcl => ?_) (fun r1 u t H1 locs ht hvm h hBu hz1 hk1 hS => ?_)
  · -- thrown
    obtain ⟨made_2, size_3, tooG_4, kept_5, sizes_6, rows_7, taken_8⟩ := u
    obtain ⟨h, hP1, hK1, hD1⟩ := hBu
    rw [ht] at hP1
    obtain ⟨hP, hD⟩ := va_join (wr := [(o0, .inl (co, 1, .inr (.inl out)))]) (w1 := (wG a0 a1 a2 a3 a4 a5 c1 c2 c4 c5 made_2 size_3 tooG_4 kept_5 sizes_6 rows_7 taken_8)) hP hD [1, 2, 3, 4, 5, 6] [0] rfl rfl (by decide) (by decide) hk1 hFc hP1 hD1
    generalize H1 = H at *
    have hP : va_P D vwCl (wO o0 a0 a1 a2 a3 a4 a5 co c1 c2 c4 c5 made_2 size_3 tooG_4 out kept_5 sizes_6 rows_7 taken_8) H := hP
    have hD : va_D A (wO o0 a0 a1 a2 a3 a4 a5 co c1 c2 c4 c5 made_2 size_3 tooG_4 out kept_5 sizes_6 rows_7 taken_8) := hD
    by_cases e0 : E = "java/lang/ArithmeticException"
    · replace h := h.1 e0
      subst e0
      refine vx_catch (own := R_L) (name := "java/lang/ArithmeticException") hown [] ⟨0, 10, 13, 13⟩ [⟨0, 10, 17, 15⟩] (by rw [htab]; rfl) (fun z hz => by cases hz) (by decide) (by decide) (hB _ wd_46) (va_Nw.use rfl (hX.1.1 (.castable "java/lang/ArithmeticException" "java/lang/ArithmeticException") (by decide +kernel))) hce hcv hcl ?_
      refine W.widen (k := 2) (n := 12) (by omega) (by omega) ?_
      refine lv_astore (lv' := [(4, .ref q9), (0, .ref a0), (1, .int p1), (2, .int p2), (3, .ref o0)]) hx hb d_L_number_13 hl (by decide) rfl (fun ls hl => ?_)
      refine lv_iconst (v := 1) hx hb d_L_number_15 (by decide) ?_
      exact W.iret (v := 1) hx hb hr (fun t ht hW => ⟨⟨1, (made_2, size_3, tooG_4, out, kept_5, sizes_6, rows_7, taken_8), rfl, h, by rw [ht]; exact hP, va_K.moved hW.alike hK, hD⟩, hS.F ht⟩) hS.2.2 d_L_number_16
    · replace h := h.2 e0
      by_cases e1 : E = "java/lang/IllegalStateException"
      · replace h := h.1 e1
        subst e1
        refine vx_catch (own := R_L) (name := "java/lang/IllegalStateException") hown [⟨0, 10, 13, 13⟩] ⟨0, 10, 17, 15⟩ [] (by rw [htab]; rfl) (fun z hz => by simp only [List.mem_cons, List.not_mem_nil, or_false] at hz; rcases hz with rfl <;> first | exact Or.inr ⟨by decide, "java/lang/ArithmeticException", hB _ wd_46, hX.2 ("java/lang/IllegalStateException", "java/lang/ArithmeticException") (by decide +kernel)⟩ ) (by decide) (by decide) (hB _ wd_47) (va_Nw.use rfl (hX.1.1 (.castable "java/lang/IllegalStateException" "java/lang/IllegalStateException") (by decide +kernel))) hce hcv hcl ?_
        refine W.widen (k := 2) (n := 12) (by omega) (by omega) ?_
        refine lv_astore (lv' := [(4, .ref q9), (0, .ref a0), (1, .int p1), (2, .int p2), (3, .ref o0)]) hx hb d_L_number_17 hl (by decide) rfl (fun ls hl => ?_)
        refine lv_iconst (v := 2) hx hb d_L_number_19 (by decide) ?_
        exact W.iret (v := 2) hx hb hr (fun t ht hW => ⟨⟨2, (made_2, size_3, tooG_4, out, kept_5, sizes_6, rows_7, taken_8), rfl, h, by rw [ht]; exact hP, va_K.moved hW.alike hK, hD⟩, hS.F ht⟩) hS.2.2 d_L_number_20
      · replace h := h.2 e1
        exact (show False from h).elim
  ·
    obtain ⟨made_2, size_3, tooG_4, kept_5, sizes_6, rows_7, taken_8⟩ := u
    obtain ⟨hP1, hK1, hD1⟩ := hBu
    rw [ht] at hP1
    obtain ⟨hP, hD⟩ := va_join (wr := [(o0, .inl (co, 1, .inr (.inl out)))]) (w1 := (wG a0 a1 a2 a3 a4 a5 c1 c2 c4 c5 made_2 size_3 tooG_4 kept_5 sizes_6 rows_7 taken_8)) hP hD [1, 2, 3, 4, 5, 6] [0] rfl rfl (by decide) (by decide) hk1 hFc hP1 hD1
    generalize H1 = H at *
    have hP : va_P D vwCl (wO o0 a0 a1 a2 a3 a4 a5 co c1 c2 c4 c5 made_2 size_3 tooG_4 out kept_5 sizes_6 rows_7 taken_8) H := hP
    have hD : va_D A (wO o0 a0 a1 a2 a3 a4 a5 co c1 c2 c4 c5 made_2 size_3 tooG_4 out kept_5 sizes_6 rows_7 taken_8) := hD
    refine W.widen (k := 2) (n := 12) (by omega) (by omega) ?_
    refine lv_i2l hx hb d_L_number_8 rfl ?_
    obtain ⟨g9, h⟩ := h
    obtain ⟨out_10, eout_10⟩ : ∃ z : (Nat → Int64), z = vp_updL out (0 : Int32).toNatClampNeg (r1.toInt64) := ⟨_, rfl⟩
    replace h := h out_10 eout_10
    refine va_last hx hb hK hP hD hS 0 0 rfl rfl g9 d_L_number_9 (fun H locs hP hD hS => ?_)
    have hP : va_P D vwCl (wO o0 a0 a1 a2 a3 a4 a5 co c1 c2 c4 c5 made_2 size_3 tooG_4 out_10 kept_5 sizes_6 rows_7 taken_8) H := by rw [eout_10]; exact hP
    have hD : va_D A (wO o0 a0 a1 a2 a3 a4 a5 co c1 c2 c4 c5 made_2 size_3 tooG_4 out_10 kept_5 sizes_6 rows_7 taken_8) := by rw [eout_10]; exact hD
    refine lv_goto (tgt := 21) hx hb d_L_number_10 (by decide) ?_
    refine lv_iconst (v := 0) hx hb d_L_number_21 (by decide) ?_
    exact W.iret (v := 0) hx hb hr (fun t ht hW => ⟨⟨0, (made_2, size_3, tooG_4, out_10, kept_5, sizes_6, rows_7, taken_8), rfl, h, by rw [ht]; exact hP, va_K.moved hW.alike hK, hD⟩, hS.F ht⟩) hS.2.2 d_L_number_22
def wp_L_letter (made : Int32) (size : Int32) (tooG : Int32) (out : (Nat → Int64)) (kept : (Nat → Int32)) (sizes : (Nat → Int32)) (rows : (Nat → Int32)) (taken : (Nat → Int32)) (p1 : Int32) (post : Int32 → Int32 → Int32 → Int32 → (Nat → Int64) → (Nat → Int32) → (Nat → Int32) → (Nat → Int32) → (Nat → Int32) → Prop) : Prop :=
  wp_G_letter made size tooG kept sizes rows taken p1 (fun r1 made_2 size_3 tooG_4 kept_5 sizes_6 rows_7 taken_8 => vp_in 0 1 ∧ (∀ out_10 : (Nat → Int64), out_10 = vp_updL out (0 : Int32).toNatClampNeg (r1.toInt64) → (post 0 made_2 size_3 tooG_4 out_10 kept_5 sizes_6 rows_7 taken_8))) (fun E made_2 size_3 tooG_4 kept_5 sizes_6 rows_7 taken_8 => (E = "java/lang/IllegalArgumentException" → (post 1 made_2 size_3 tooG_4 out kept_5 sizes_6 rows_7 taken_8)) ∧ (¬ E = "java/lang/IllegalArgumentException" → ((E = "java/lang/IllegalStateException" → (post 2 made_2 size_3 tooG_4 out kept_5 sizes_6 rows_7 taken_8)) ∧ (¬ E = "java/lang/IllegalStateException" → (False)))))
set_option maxHeartbeats 4000000 in
set_option maxRecDepth 100000 in
theorem c_L_letter (l : Launch) (D : va_G) (o0 a0 a1 a2 a3 a4 a5 : Nat) (co c1 c2 c4 c5 : ClassId) (sz : Nat) (made : Int32) (size : Int32) (tooG : Int32) (out : (Nat → Int64)) (kept : (Nat → Int32)) (sizes : (Nat → Int32)) (rows : (Nat → Int32)) (taken : (Nat → Int32)) (p1 : Int32) (post : Int32 → Int32 → Int32 → Int32 → (Nat → Int64) → (Nat → Int32) → (Nat → Int32) → (Nat → Int32) → (Nat → Int32) → Prop) (hst : l.stackTraces = false) : Met l y_L_letter (Cond.codeWith y_L_letter b_L_letter 4 (some .int) [(0, 9, 12, 21), (0, 9, 15, 15)] :: BIG) ({ frames := 8, cells := 2, slots := 12, locals := 172 }) (va_Pc [.ref a0, .int p1, .ref o0] (pcH D vwCl (wO o0 a0 a1 a2 a3 a4 a5 co c1 c2 c4 c5 made size tooG out kept sizes rows taken) [(co, .long), (c1, .int), (c2, .int), (c4, .int), (c5, .int)] sz (wp_L_letter made size tooG out kept sizes rows taken p1 post))) (va_Qi (fun (r : Int32) (u : Int32 × Int32 × Int32 × (Nat → Int64) × (Nat → Int32) × (Nat → Int32) × (Nat → Int32) × (Nat → Int32)) => post r u.1 u.2.1 u.2.2.1 u.2.2.2.1 u.2.2.2.2.1 u.2.2.2.2.2.1 u.2.2.2.2.2.2.1 u.2.2.2.2.2.2.2) (fun u => atG D vwCl [(co, .long), (c1, .int), (c2, .int), (c4, .int), (c5, .int)] (va_A (wO o0 a0 a1 a2 a3 a4 a5 co c1 c2 c4 c5 made size tooG out kept sizes rows taken) sz) (wO o0 a0 a1 a2 a3 a4 a5 co c1 c2 c4 c5 (u.1) (u.2.1) (u.2.2.1) (u.2.2.2.1) (u.2.2.2.2.1) (u.2.2.2.2.2.1) (u.2.2.2.2.2.2.1) (u.2.2.2.2.2.2.2))) (va_A (wO o0 a0 a1 a2 a3 a4 a5 co c1 c2 c4 c5 made size tooG out kept sizes rows taken) sz)) 2 12 (va_A (wO o0 a0 a1 a2 a3 a4 a5 co c1 c2 c4 c5 made size tooG out kept sizes rows taken) sz) := by
  refine va_MetW (cc := b_L_letter) (maxL := 4) (ret := (some .int)) (by decide) rfl ?_
  intro p e s m args below meth c s₁ B hml hv
  obtain ⟨rfl, hsz, hP, hK, hD0, hX, h⟩ := hv
  have hx := B.exec
  have hb := B.bytes
  have hr := B.returns
  have hat := atoms_spec (ws := (Cond.codeWith y_L_letter b_L_letter 4 (some .int) [(0, 9, 12, 21), (0, 9, 15, 15)] :: BIG)) B.pre
  have htab := vx_table (x := y_L_letter) B (hat _ List.mem_cons_self)
  have hB : ∀ w ∈ BIG, w.before _ s = true := fun w h => hat w (List.mem_cons_of_mem _ h)
  have hown : s.vm.findClass R_L = some m.cls := findClass_of_methodNamed B.named
  have hlocks := B.notSynchronized
  subst hsz
  have hD := hD0.self (sz := s.heap.size)
  generalize hAe : va_A (wO o0 a0 a1 a2 a3 a4 a5 co c1 c2 c4 c5 made size tooG out kept sizes rows taken) s.heap.size = A at hD hX ⊢
  have hA : ∀ q : Nat, s.heap.size ≤ q → A q := fun q h => by rw [← hAe]; exact Or.inr h
  have hl := lv_entry ([.ref a0, .int p1, .ref o0]) (n := 4) (Nat.le_of_ble_eq_true rfl)
  rw [lg_entry_eq]
  generalize (lg_sl ([.ref a0, .int p1, .ref o0]) ++ List.replicate (4 - (lg_sl ([.ref a0, .int p1, .ref o0])).length) Slot.unset).toArray = ls at hl ⊢
  have hl : lv_has ls 4 [(0, .ref a0), (1, .int p1), (2, .ref o0)] := hl
  refine W.cap (fun G Gi Ge => ?_)
  suffices hL : ∀ (H : Heap) (locs : List Loc), va_P D vwCl (wO o0 a0 a1 a2 a3 a4 a5 co c1 c2 c4 c5 made size tooG out kept sizes rows taken) H → va_S A s.heap H locs → G H locs (F0 m 0 ls []) from hL _ _ hP va_S.rf
  clear hP
  intro H locs hP hS
  refine Gi _ _ _ ?_
  unfold wp_L_letter at h
  refine lv_aload_n hx hb d_L_letter_0 rfl (lv_at hl 2 rfl) ?_
  refine lv_iconst (v := 0) hx hb d_L_letter_1 (by decide) ?_
  refine lv_aload_n hx hb d_L_letter_2 rfl (lv_at hl 0 rfl) ?_
  refine lv_iload_n hx hb d_L_letter_3 rfl (lv_at hl 1 rfl) ?_
  have hPc := hP.sub (ws' := (wG a0 a1 a2 a3 a4 a5 c1 c2 c4 c5 made size tooG kept sizes rows taken)) [1, 2, 3, 4, 5, 6] rfl
  have hDc := hD.sub (ws' := (wG a0 a1 a2 a3 a4 a5 c1 c2 c4 c5 made size tooG kept sizes rows taken)) [1, 2, 3, 4, 5, 6] (by decide) rfl
  have hKc := hK.sub (tys' := [(c1, .int), (c2, .int), (c4, .int), (c5, .int)]) [1, 2, 3, 4] rfl
  have hFc := va_free (wc := (wG a0 a1 a2 a3 a4 a5 c1 c2 c4 c5 made size tooG kept sizes rows taken)) hD hS hA [1, 2, 3, 4, 5, 6] rfl
  refine vx_calli (vx_runV (As := [.int p1]) (rest := [.int 0, .ref o0]) ⟨hx, hb, hml, hown, hB⟩ (c_G_letter l D a0 a1 a2 a3 a4 a5 c1 c2 c4 c5 H.size made size tooG kept sizes rows taken p1 _ _ hst) (cwV 1 hB (goodV wd_152 wd_153 wd_154 wd_1 wd_155) rfl rfl rfl (by decide +kernel) ⟨Nat.le_of_ble_eq_true rfl, Nat.le_of_ble_eq_true rfl⟩) ⟨pcX_blind, va_recv hKc hPc (ci := 1) (q0 := 0) rfl rfl, pcX_pre hPc hKc hDc hS hX.1 hFc h⟩ rfl rfl hl.1 rfl (lv_room (Nat.le_of_ble_eq_true rfl)) d_L_letter_4 ⟨Nat.le_of_ble_eq_true rfl, Nat.le_of_ble_eq_true rfl⟩) hS (fun q _ h => hFc q h) hFc (fun q _ h => hFc q h) (fun E ce q9 u t H1 locs ht hvm _ hBu hz1 hk1 hS hce hcv hcl => ?_) (fun r1 u t H1 locs ht hvm h hBu hz1 hk1 hS => ?_)
  · -- thrown
    obtain ⟨made_2, size_3, tooG_4, kept_5, sizes_6, rows_7, taken_8⟩ := u
    obtain ⟨h, hP1, hK1, hD1⟩ := hBu
    rw [ht] at hP1
    obtain ⟨hP, hD⟩ := va_join (wr := [(o0, .inl (co, 1, .inr (.inl out)))]) (w1 := (wG a0 a1 a2 a3 a4 a5 c1 c2 c4 c5 made_2 size_3 tooG_4 kept_5 sizes_6 rows_7 taken_8)) hP hD [1, 2, 3, 4, 5, 6] [0] rfl rfl (by decide) (by decide) hk1 hFc hP1 hD1
    generalize H1 = H at *
    have hP : va_P D vwCl (wO o0 a0 a1 a2 a3 a4 a5 co c1 c2 c4 c5 made_2 size_3 tooG_4 out kept_5 sizes_6 rows_7 taken_8) H := hP
    have hD : va_D A (wO o0 a0 a1 a2 a3 a4 a5 co c1 c2 c4 c5 made_2 size_3 tooG_4 out kept_5 sizes_6 rows_7 taken_8) := hD
    by_cases e0 : E = "java/lang/IllegalArgumentException"
    · replace h := h.1 e0
      subst e0
      refine vx_catch (own := R_L) (name := "java/lang/IllegalArgumentException") hown [] ⟨0, 9, 12, 21⟩ [⟨0, 9, 15, 15⟩] (by rw [htab]; rfl) (fun z hz => by cases hz) (by decide) (by decide) (hB _ wd_151) (va_Nw.use rfl (hX.1.1 (.castable "java/lang/IllegalArgumentException" "java/lang/IllegalArgumentException") (by decide +kernel))) hce hcv hcl ?_
      refine W.widen (k := 2) (n := 12) (by omega) (by omega) ?_
      refine lv_astore_n (lv' := [(3, .ref q9), (0, .ref a0), (1, .int p1), (2, .ref o0)]) hx hb d_L_letter_12 rfl hl (by decide) rfl (fun ls hl => ?_)
      refine lv_iconst (v := 1) hx hb d_L_letter_13 (by decide) ?_
      exact W.iret (v := 1) hx hb hr (fun t ht hW => ⟨⟨1, (made_2, size_3, tooG_4, out, kept_5, sizes_6, rows_7, taken_8), rfl, h, by rw [ht]; exact hP, va_K.moved hW.alike hK, hD⟩, hS.F ht⟩) hS.2.2 d_L_letter_14
    · replace h := h.2 e0
      by_cases e1 : E = "java/lang/IllegalStateException"
      · replace h := h.1 e1
        subst e1
        refine vx_catch (own := R_L) (name := "java/lang/IllegalStateException") hown [⟨0, 9, 12, 21⟩] ⟨0, 9, 15, 15⟩ [] (by rw [htab]; rfl) (fun z hz => by simp only [List.mem_cons, List.not_mem_nil, or_false] at hz; rcases hz with rfl <;> first | exact Or.inr ⟨by decide, "java/lang/IllegalArgumentException", hB _ wd_151, hX.2 ("java/lang/IllegalStateException", "java/lang/IllegalArgumentException") (by decide +kernel)⟩ ) (by decide) (by decide) (hB _ wd_47) (va_Nw.use rfl (hX.1.1 (.castable "java/lang/IllegalStateException" "java/lang/IllegalStateException") (by decide +kernel))) hce hcv hcl ?_
        refine W.widen (k := 2) (n := 12) (by omega) (by omega) ?_
        refine lv_astore_n (lv' := [(3, .ref q9), (0, .ref a0), (1, .int p1), (2, .ref o0)]) hx hb d_L_letter_15 rfl hl (by decide) rfl (fun ls hl => ?_)
        refine lv_iconst (v := 2) hx hb d_L_letter_16 (by decide) ?_
        exact W.iret (v := 2) hx hb hr (fun t ht hW => ⟨⟨2, (made_2, size_3, tooG_4, out, kept_5, sizes_6, rows_7, taken_8), rfl, h, by rw [ht]; exact hP, va_K.moved hW.alike hK, hD⟩, hS.F ht⟩) hS.2.2 d_L_letter_17
      · replace h := h.2 e1
        exact (show False from h).elim
  ·
    obtain ⟨made_2, size_3, tooG_4, kept_5, sizes_6, rows_7, taken_8⟩ := u
    obtain ⟨hP1, hK1, hD1⟩ := hBu
    rw [ht] at hP1
    obtain ⟨hP, hD⟩ := va_join (wr := [(o0, .inl (co, 1, .inr (.inl out)))]) (w1 := (wG a0 a1 a2 a3 a4 a5 c1 c2 c4 c5 made_2 size_3 tooG_4 kept_5 sizes_6 rows_7 taken_8)) hP hD [1, 2, 3, 4, 5, 6] [0] rfl rfl (by decide) (by decide) hk1 hFc hP1 hD1
    generalize H1 = H at *
    have hP : va_P D vwCl (wO o0 a0 a1 a2 a3 a4 a5 co c1 c2 c4 c5 made_2 size_3 tooG_4 out kept_5 sizes_6 rows_7 taken_8) H := hP
    have hD : va_D A (wO o0 a0 a1 a2 a3 a4 a5 co c1 c2 c4 c5 made_2 size_3 tooG_4 out kept_5 sizes_6 rows_7 taken_8) := hD
    refine W.widen (k := 2) (n := 12) (by omega) (by omega) ?_
    refine lv_i2l hx hb d_L_letter_7 rfl ?_
    obtain ⟨g9, h⟩ := h
    obtain ⟨out_10, eout_10⟩ : ∃ z : (Nat → Int64), z = vp_updL out (0 : Int32).toNatClampNeg (r1.toInt64) := ⟨_, rfl⟩
    replace h := h out_10 eout_10
    refine va_last hx hb hK hP hD hS 0 0 rfl rfl g9 d_L_letter_8 (fun H locs hP hD hS => ?_)
    have hP : va_P D vwCl (wO o0 a0 a1 a2 a3 a4 a5 co c1 c2 c4 c5 made_2 size_3 tooG_4 out_10 kept_5 sizes_6 rows_7 taken_8) H := by rw [eout_10]; exact hP
    have hD : va_D A (wO o0 a0 a1 a2 a3 a4 a5 co c1 c2 c4 c5 made_2 size_3 tooG_4 out_10 kept_5 sizes_6 rows_7 taken_8) := by rw [eout_10]; exact hD
    refine lv_goto (tgt := 18) hx hb d_L_letter_9 (by decide) ?_
    refine lv_iconst (v := 0) hx hb d_L_letter_18 (by decide) ?_
    exact W.iret (v := 0) hx hb hr (fun t ht hW => ⟨⟨0, (made_2, size_3, tooG_4, out_10, kept_5, sizes_6, rows_7, taken_8), rfl, h, by rw [ht]; exact hP, va_K.moved hW.alike hK, hD⟩, hS.F ht⟩) hS.2.2 d_L_letter_19
def wp_L_add (made : Int32) (size : Int32) (tooG : Int32) (out : (Nat → Int64)) (kept : (Nat → Int32)) (sizes : (Nat → Int32)) (rows : (Nat → Int32)) (taken : (Nat → Int32)) (p1 : Int32) (p2 : Int32) (post : Int32 → Int32 → Int32 → Int32 → (Nat → Int64) → (Nat → Int32) → (Nat → Int32) → (Nat → Int32) → (Nat → Int32) → Prop) : Prop :=
  wp_G_add made size tooG kept sizes rows taken p1 p2 (fun r1 made_2 size_3 tooG_4 kept_5 sizes_6 rows_7 taken_8 => vp_in 0 1 ∧ (∀ out_10 : (Nat → Int64), out_10 = vp_updL out (0 : Int32).toNatClampNeg (r1.toInt64) → (post 0 made_2 size_3 tooG_4 out_10 kept_5 sizes_6 rows_7 taken_8))) (fun E made_2 size_3 tooG_4 kept_5 sizes_6 rows_7 taken_8 => (E = "java/lang/IndexOutOfBoundsException" → (post 1 made_2 size_3 tooG_4 out kept_5 sizes_6 rows_7 taken_8)) ∧ (¬ E = "java/lang/IndexOutOfBoundsException" → ((E = "java/lang/IllegalStateException" → (post 2 made_2 size_3 tooG_4 out kept_5 sizes_6 rows_7 taken_8)) ∧ (¬ E = "java/lang/IllegalStateException" → (False)))))
set_option maxHeartbeats 4000000 in
set_option maxRecDepth 100000 in
theorem c_L_add (l : Launch) (D : va_G) (o0 a0 a1 a2 a3 a4 a5 : Nat) (co c1 c2 c4 c5 : ClassId) (sz : Nat) (made : Int32) (size : Int32) (tooG : Int32) (out : (Nat → Int64)) (kept : (Nat → Int32)) (sizes : (Nat → Int32)) (rows : (Nat → Int32)) (taken : (Nat → Int32)) (p1 : Int32) (p2 : Int32) (post : Int32 → Int32 → Int32 → Int32 → (Nat → Int64) → (Nat → Int32) → (Nat → Int32) → (Nat → Int32) → (Nat → Int32) → Prop) (hst : l.stackTraces = false) : Met l y_L_add (Cond.codeWith y_L_add b_L_add 5 (some .int) [(0, 10, 13, 26), (0, 10, 17, 15)] :: BIG) ({ frames := 8, cells := 4, slots := 24, locals := 172 }) (va_Pc [.ref a0, .int p1, .int p2, .ref o0] (pcH D vwCl (wO o0 a0 a1 a2 a3 a4 a5 co c1 c2 c4 c5 made size tooG out kept sizes rows taken) [(co, .long), (c1, .int), (c2, .int), (c4, .int), (c5, .int)] sz (wp_L_add made size tooG out kept sizes rows taken p1 p2 post))) (va_Qi (fun (r : Int32) (u : Int32 × Int32 × Int32 × (Nat → Int64) × (Nat → Int32) × (Nat → Int32) × (Nat → Int32) × (Nat → Int32)) => post r u.1 u.2.1 u.2.2.1 u.2.2.2.1 u.2.2.2.2.1 u.2.2.2.2.2.1 u.2.2.2.2.2.2.1 u.2.2.2.2.2.2.2) (fun u => atG D vwCl [(co, .long), (c1, .int), (c2, .int), (c4, .int), (c5, .int)] (va_A (wO o0 a0 a1 a2 a3 a4 a5 co c1 c2 c4 c5 made size tooG out kept sizes rows taken) sz) (wO o0 a0 a1 a2 a3 a4 a5 co c1 c2 c4 c5 (u.1) (u.2.1) (u.2.2.1) (u.2.2.2.1) (u.2.2.2.2.1) (u.2.2.2.2.2.1) (u.2.2.2.2.2.2.1) (u.2.2.2.2.2.2.2))) (va_A (wO o0 a0 a1 a2 a3 a4 a5 co c1 c2 c4 c5 made size tooG out kept sizes rows taken) sz)) 4 24 (va_A (wO o0 a0 a1 a2 a3 a4 a5 co c1 c2 c4 c5 made size tooG out kept sizes rows taken) sz) := by
  refine va_MetW (cc := b_L_add) (maxL := 5) (ret := (some .int)) (by decide) rfl ?_
  intro p e s m args below meth c s₁ B hml hv
  obtain ⟨rfl, hsz, hP, hK, hD0, hX, h⟩ := hv
  have hx := B.exec
  have hb := B.bytes
  have hr := B.returns
  have hat := atoms_spec (ws := (Cond.codeWith y_L_add b_L_add 5 (some .int) [(0, 10, 13, 26), (0, 10, 17, 15)] :: BIG)) B.pre
  have htab := vx_table (x := y_L_add) B (hat _ List.mem_cons_self)
  have hB : ∀ w ∈ BIG, w.before _ s = true := fun w h => hat w (List.mem_cons_of_mem _ h)
  have hown : s.vm.findClass R_L = some m.cls := findClass_of_methodNamed B.named
  have hlocks := B.notSynchronized
  subst hsz
  have hD := hD0.self (sz := s.heap.size)
  generalize hAe : va_A (wO o0 a0 a1 a2 a3 a4 a5 co c1 c2 c4 c5 made size tooG out kept sizes rows taken) s.heap.size = A at hD hX ⊢
  have hA : ∀ q : Nat, s.heap.size ≤ q → A q := fun q h => by rw [← hAe]; exact Or.inr h
  have hl := lv_entry ([.ref a0, .int p1, .int p2, .ref o0]) (n := 5) (Nat.le_of_ble_eq_true rfl)
  rw [lg_entry_eq]
  generalize (lg_sl ([.ref a0, .int p1, .int p2, .ref o0]) ++ List.replicate (5 - (lg_sl ([.ref a0, .int p1, .int p2, .ref o0])).length) Slot.unset).toArray = ls at hl ⊢
  have hl : lv_has ls 5 [(0, .ref a0), (1, .int p1), (2, .int p2), (3, .ref o0)] := hl
  refine W.cap (fun G Gi Ge => ?_)
  suffices hL : ∀ (H : Heap) (locs : List Loc), va_P D vwCl (wO o0 a0 a1 a2 a3 a4 a5 co c1 c2 c4 c5 made size tooG out kept sizes rows taken) H → va_S A s.heap H locs → G H locs (F0 m 0 ls []) from hL _ _ hP va_S.rf
  clear hP
  intro H locs hP hS
  refine Gi _ _ _ ?_
  unfold wp_L_add at h
  refine lv_aload_n hx hb d_L_add_0 rfl (lv_at hl 3 rfl) ?_
  refine lv_iconst (v := 0) hx hb d_L_add_1 (by decide) ?_
  refine lv_aload_n hx hb d_L_add_2 rfl (lv_at hl 0 rfl) ?_
  refine lv_iload_n hx hb d_L_add_3 rfl (lv_at hl 1 rfl) ?_
  refine lv_iload_n hx hb d_L_add_4 rfl (lv_at hl 2 rfl) ?_
  have hPc := hP.sub (ws' := (wG a0 a1 a2 a3 a4 a5 c1 c2 c4 c5 made size tooG kept sizes rows taken)) [1, 2, 3, 4, 5, 6] rfl
  have hDc := hD.sub (ws' := (wG a0 a1 a2 a3 a4 a5 c1 c2 c4 c5 made size tooG kept sizes rows taken)) [1, 2, 3, 4, 5, 6] (by decide) rfl
  have hKc := hK.sub (tys' := [(c1, .int), (c2, .int), (c4, .int), (c5, .int)]) [1, 2, 3, 4] rfl
  have hFc := va_free (wc := (wG a0 a1 a2 a3 a4 a5 c1 c2 c4 c5 made size tooG kept sizes rows taken)) hD hS hA [1, 2, 3, 4, 5, 6] rfl
  refine vx_calli (vx_runV (As := [.int p1, .int p2]) (rest := [.int 0, .ref o0]) ⟨hx, hb, hml, hown, hB⟩ (c_G_add l D a0 a1 a2 a3 a4 a5 c1 c2 c4 c5 H.size made size tooG kept sizes rows taken p1 p2 _ _ hst) (cwV 2 hB (goodV wd_174 wd_175 wd_176 wd_1 wd_177) rfl rfl rfl (by decide +kernel) ⟨Nat.le_of_ble_eq_true rfl, Nat.le_of_ble_eq_true rfl⟩) ⟨pcX_blind, va_recv hKc hPc (ci := 1) (q0 := 0) rfl rfl, pcX_pre hPc hKc hDc hS hX.1 hFc h⟩ rfl rfl hl.1 rfl (lv_room (Nat.le_of_ble_eq_true rfl)) d_L_add_5 ⟨Nat.le_of_ble_eq_true rfl, Nat.le_of_ble_eq_true rfl⟩) hS (fun q _ h => hFc q h) hFc (fun q _ h => hFc q h) (fun E ce q9 u t H1 locs ht hvm _ hBu hz1 hk1 hS hce hcv hcl => ?_) (fun r1 u t H1 locs ht hvm h hBu hz1 hk1 hS => ?_)
  · -- thrown
    obtain ⟨made_2, size_3, tooG_4, kept_5, sizes_6, rows_7, taken_8⟩ := u
    obtain ⟨h, hP1, hK1, hD1⟩ := hBu
    rw [ht] at hP1
    obtain ⟨hP, hD⟩ := va_join (wr := [(o0, .inl (co, 1, .inr (.inl out)))]) (w1 := (wG a0 a1 a2 a3 a4 a5 c1 c2 c4 c5 made_2 size_3 tooG_4 kept_5 sizes_6 rows_7 taken_8)) hP hD [1, 2, 3, 4, 5, 6] [0] rfl rfl (by decide) (by decide) hk1 hFc hP1 hD1
    generalize H1 = H at *
    have hP : va_P D vwCl (wO o0 a0 a1 a2 a3 a4 a5 co c1 c2 c4 c5 made_2 size_3 tooG_4 out kept_5 sizes_6 rows_7 taken_8) H := hP
    have hD : va_D A (wO o0 a0 a1 a2 a3 a4 a5 co c1 c2 c4 c5 made_2 size_3 tooG_4 out kept_5 sizes_6 rows_7 taken_8) := hD
    by_cases e0 : E = "java/lang/IndexOutOfBoundsException"
    · replace h := h.1 e0
      subst e0
      refine vx_catch (own := R_L) (name := "java/lang/IndexOutOfBoundsException") hown [] ⟨0, 10, 13, 26⟩ [⟨0, 10, 17, 15⟩] (by rw [htab]; rfl) (fun z hz => by cases hz) (by decide) (by decide) (hB _ wd_173) (va_Nw.use rfl (hX.1.1 (.castable "java/lang/IndexOutOfBoundsException" "java/lang/IndexOutOfBoundsException") (by decide +kernel))) hce hcv hcl ?_
      refine W.widen (k := 4) (n := 24) (by omega) (by omega) ?_
      refine lv_astore (lv' := [(4, .ref q9), (0, .ref a0), (1, .int p1), (2, .int p2), (3, .ref o0)]) hx hb d_L_add_13 hl (by decide) rfl (fun ls hl => ?_)
      refine lv_iconst (v := 1) hx hb d_L_add_15 (by decide) ?_
      exact W.iret (v := 1) hx hb hr (fun t ht hW => ⟨⟨1, (made_2, size_3, tooG_4, out, kept_5, sizes_6, rows_7, taken_8), rfl, h, by rw [ht]; exact hP, va_K.moved hW.alike hK, hD⟩, hS.F ht⟩) hS.2.2 d_L_add_16
    · replace h := h.2 e0
      by_cases e1 : E = "java/lang/IllegalStateException"
      · replace h := h.1 e1
        subst e1
        refine vx_catch (own := R_L) (name := "java/lang/IllegalStateException") hown [⟨0, 10, 13, 26⟩] ⟨0, 10, 17, 15⟩ [] (by rw [htab]; rfl) (fun z hz => by simp only [List.mem_cons, List.not_mem_nil, or_false] at hz; rcases hz with rfl <;> first | exact Or.inr ⟨by decide, "java/lang/IndexOutOfBoundsException", hB _ wd_173, hX.2 ("java/lang/IllegalStateException", "java/lang/IndexOutOfBoundsException") (by decide +kernel)⟩ ) (by decide) (by decide) (hB _ wd_47) (va_Nw.use rfl (hX.1.1 (.castable "java/lang/IllegalStateException" "java/lang/IllegalStateException") (by decide +kernel))) hce hcv hcl ?_
        refine W.widen (k := 4) (n := 24) (by omega) (by omega) ?_
        refine lv_astore (lv' := [(4, .ref q9), (0, .ref a0), (1, .int p1), (2, .int p2), (3, .ref o0)]) hx hb d_L_add_17 hl (by decide) rfl (fun ls hl => ?_)
        refine lv_iconst (v := 2) hx hb d_L_add_19 (by decide) ?_
        exact W.iret (v := 2) hx hb hr (fun t ht hW => ⟨⟨2, (made_2, size_3, tooG_4, out, kept_5, sizes_6, rows_7, taken_8), rfl, h, by rw [ht]; exact hP, va_K.moved hW.alike hK, hD⟩, hS.F ht⟩) hS.2.2 d_L_add_20
      · replace h := h.2 e1
        exact (show False from h).elim
  ·
    obtain ⟨made_2, size_3, tooG_4, kept_5, sizes_6, rows_7, taken_8⟩ := u
    obtain ⟨hP1, hK1, hD1⟩ := hBu
    rw [ht] at hP1
    obtain ⟨hP, hD⟩ := va_join (wr := [(o0, .inl (co, 1, .inr (.inl out)))]) (w1 := (wG a0 a1 a2 a3 a4 a5 c1 c2 c4 c5 made_2 size_3 tooG_4 kept_5 sizes_6 rows_7 taken_8)) hP hD [1, 2, 3, 4, 5, 6] [0] rfl rfl (by decide) (by decide) hk1 hFc hP1 hD1
    generalize H1 = H at *
    have hP : va_P D vwCl (wO o0 a0 a1 a2 a3 a4 a5 co c1 c2 c4 c5 made_2 size_3 tooG_4 out kept_5 sizes_6 rows_7 taken_8) H := hP
    have hD : va_D A (wO o0 a0 a1 a2 a3 a4 a5 co c1 c2 c4 c5 made_2 size_3 tooG_4 out kept_5 sizes_6 rows_7 taken_8) := hD
    refine W.widen (k := 4) (n := 24) (by omega) (by omega) ?_
    refine lv_i2l hx hb d_L_add_8 rfl ?_
    obtain ⟨g9, h⟩ := h
    obtain ⟨out_10, eout_10⟩ : ∃ z : (Nat → Int64), z = vp_updL out (0 : Int32).toNatClampNeg (r1.toInt64) := ⟨_, rfl⟩
    replace h := h out_10 eout_10
    refine va_last hx hb hK hP hD hS 0 0 rfl rfl g9 d_L_add_9 (fun H locs hP hD hS => ?_)
    have hP : va_P D vwCl (wO o0 a0 a1 a2 a3 a4 a5 co c1 c2 c4 c5 made_2 size_3 tooG_4 out_10 kept_5 sizes_6 rows_7 taken_8) H := by rw [eout_10]; exact hP
    have hD : va_D A (wO o0 a0 a1 a2 a3 a4 a5 co c1 c2 c4 c5 made_2 size_3 tooG_4 out_10 kept_5 sizes_6 rows_7 taken_8) := by rw [eout_10]; exact hD
    refine lv_goto (tgt := 21) hx hb d_L_add_10 (by decide) ?_
    refine lv_iconst (v := 0) hx hb d_L_add_21 (by decide) ?_
    exact W.iret (v := 0) hx hb hr (fun t ht hW => ⟨⟨0, (made_2, size_3, tooG_4, out_10, kept_5, sizes_6, rows_7, taken_8), rfl, h, by rw [ht]; exact hP, va_K.moved hW.alike hK, hD⟩, hS.F ht⟩) hS.2.2 d_L_add_22
def wp_L_times (made : Int32) (size : Int32) (tooG : Int32) (out : (Nat → Int64)) (kept : (Nat → Int32)) (sizes : (Nat → Int32)) (rows : (Nat → Int32)) (taken : (Nat → Int32)) (p1 : Int32) (p2 : Int32) (post : Int32 → Int32 → Int32 → Int32 → (Nat → Int64) → (Nat → Int32) → (Nat → Int32) → (Nat → Int32) → (Nat → Int32) → Prop) : Prop :=
  wp_G_times made size tooG kept sizes rows taken p1 p2 (fun r1 made_2 size_3 tooG_4 kept_5 sizes_6 rows_7 taken_8 => vp_in 0 1 ∧ (∀ out_10 : (Nat → Int64), out_10 = vp_updL out (0 : Int32).toNatClampNeg (r1.toInt64) → (post 0 made_2 size_3 tooG_4 out_10 kept_5 sizes_6 rows_7 taken_8))) (fun E made_2 size_3 tooG_4 kept_5 sizes_6 rows_7 taken_8 => (E = "java/lang/IndexOutOfBoundsException" → (post 1 made_2 size_3 tooG_4 out kept_5 sizes_6 rows_7 taken_8)) ∧ (¬ E = "java/lang/IndexOutOfBoundsException" → ((E = "java/lang/IllegalStateException" → (post 2 made_2 size_3 tooG_4 out kept_5 sizes_6 rows_7 taken_8)) ∧ (¬ E = "java/lang/IllegalStateException" → (False)))))
set_option maxHeartbeats 4000000 in
set_option maxRecDepth 100000 in
theorem c_L_times (l : Launch) (D : va_G) (o0 a0 a1 a2 a3 a4 a5 : Nat) (co c1 c2 c4 c5 : ClassId) (sz : Nat) (made : Int32) (size : Int32) (tooG : Int32) (out : (Nat → Int64)) (kept : (Nat → Int32)) (sizes : (Nat → Int32)) (rows : (Nat → Int32)) (taken : (Nat → Int32)) (p1 : Int32) (p2 : Int32) (post : Int32 → Int32 → Int32 → Int32 → (Nat → Int64) → (Nat → Int32) → (Nat → Int32) → (Nat → Int32) → (Nat → Int32) → Prop) (hst : l.stackTraces = false) : Met l y_L_times (Cond.codeWith y_L_times b_L_times 5 (some .int) [(0, 10, 13, 26), (0, 10, 17, 15)] :: BIG) ({ frames := 8, cells := 4, slots := 24, locals := 154 }) (va_Pc [.ref a0, .int p1, .int p2, .ref o0] (pcH D vwCl (wO o0 a0 a1 a2 a3 a4 a5 co c1 c2 c4 c5 made size tooG out kept sizes rows taken) [(co, .long), (c1, .int), (c2, .int), (c4, .int), (c5, .int)] sz (wp_L_times made size tooG out kept sizes rows taken p1 p2 post))) (va_Qi (fun (r : Int32) (u : Int32 × Int32 × Int32 × (Nat → Int64) × (Nat → Int32) × (Nat → Int32) × (Nat → Int32) × (Nat → Int32)) => post r u.1 u.2.1 u.2.2.1 u.2.2.2.1 u.2.2.2.2.1 u.2.2.2.2.2.1 u.2.2.2.2.2.2.1 u.2.2.2.2.2.2.2) (fun u => atG D vwCl [(co, .long), (c1, .int), (c2, .int), (c4, .int), (c5, .int)] (va_A (wO o0 a0 a1 a2 a3 a4 a5 co c1 c2 c4 c5 made size tooG out kept sizes rows taken) sz) (wO o0 a0 a1 a2 a3 a4 a5 co c1 c2 c4 c5 (u.1) (u.2.1) (u.2.2.1) (u.2.2.2.1) (u.2.2.2.2.1) (u.2.2.2.2.2.1) (u.2.2.2.2.2.2.1) (u.2.2.2.2.2.2.2))) (va_A (wO o0 a0 a1 a2 a3 a4 a5 co c1 c2 c4 c5 made size tooG out kept sizes rows taken) sz)) 4 24 (va_A (wO o0 a0 a1 a2 a3 a4 a5 co c1 c2 c4 c5 made size tooG out kept sizes rows taken) sz) := by
  refine va_MetW (cc := b_L_times) (maxL := 5) (ret := (some .int)) (by decide) rfl ?_
  intro p e s m args below meth c s₁ B hml hv
  obtain ⟨rfl, hsz, hP, hK, hD0, hX, h⟩ := hv
  have hx := B.exec
  have hb := B.bytes
  have hr := B.returns
  have hat := atoms_spec (ws := (Cond.codeWith y_L_times b_L_times 5 (some .int) [(0, 10, 13, 26), (0, 10, 17, 15)] :: BIG)) B.pre
  have htab := vx_table (x := y_L_times) B (hat _ List.mem_cons_self)
  have hB : ∀ w ∈ BIG, w.before _ s = true := fun w h => hat w (List.mem_cons_of_mem _ h)
  have hown : s.vm.findClass R_L = some m.cls := findClass_of_methodNamed B.named
  have hlocks := B.notSynchronized
  subst hsz
  have hD := hD0.self (sz := s.heap.size)
  generalize hAe : va_A (wO o0 a0 a1 a2 a3 a4 a5 co c1 c2 c4 c5 made size tooG out kept sizes rows taken) s.heap.size = A at hD hX ⊢
  have hA : ∀ q : Nat, s.heap.size ≤ q → A q := fun q h => by rw [← hAe]; exact Or.inr h
  have hl := lv_entry ([.ref a0, .int p1, .int p2, .ref o0]) (n := 5) (Nat.le_of_ble_eq_true rfl)
  rw [lg_entry_eq]
  generalize (lg_sl ([.ref a0, .int p1, .int p2, .ref o0]) ++ List.replicate (5 - (lg_sl ([.ref a0, .int p1, .int p2, .ref o0])).length) Slot.unset).toArray = ls at hl ⊢
  have hl : lv_has ls 5 [(0, .ref a0), (1, .int p1), (2, .int p2), (3, .ref o0)] := hl
  refine W.cap (fun G Gi Ge => ?_)
  suffices hL : ∀ (H : Heap) (locs : List Loc), va_P D vwCl (wO o0 a0 a1 a2 a3 a4 a5 co c1 c2 c4 c5 made size tooG out kept sizes rows taken) H → va_S A s.heap H locs → G H locs (F0 m 0 ls []) from hL _ _ hP va_S.rf
  clear hP
  intro H locs hP hS
  refine Gi _ _ _ ?_
  unfold wp_L_times at h
  refine lv_aload_n hx hb d_L_times_0 rfl (lv_at hl 3 rfl) ?_
  refine lv_iconst (v := 0) hx hb d_L_times_1 (by decide) ?_
  refine lv_aload_n hx hb d_L_times_2 rfl (lv_at hl 0 rfl) ?_
  refine lv_iload_n hx hb d_L_times_3 rfl (lv_at hl 1 rfl) ?_
  refine lv_iload_n hx hb d_L_times_4 rfl (lv_at hl 2 rfl) ?_
  have hPc := hP.sub (ws' := (wG a0 a1 a2 a3 a4 a5 c1 c2 c4 c5 made size tooG kept sizes rows taken)) [1, 2, 3, 4, 5, 6] rfl
  have hDc := hD.sub (ws' := (wG a0 a1 a2 a3 a4 a5 c1 c2 c4 c5 made size tooG kept sizes rows taken)) [1, 2, 3, 4, 5, 6] (by decide) rfl
  have hKc := hK.sub (tys' := [(c1, .int), (c2, .int), (c4, .int), (c5, .int)]) [1, 2, 3, 4] rfl
  have hFc := va_free (wc := (wG a0 a1 a2 a3 a4 a5 c1 c2 c4 c5 made size tooG kept sizes rows taken)) hD hS hA [1, 2, 3, 4, 5, 6] rfl
  refine vx_calli (vx_runV (As := [.int p1, .int p2]) (rest := [.int 0, .ref o0]) ⟨hx, hb, hml, hown, hB⟩ (c_G_times l D a0 a1 a2 a3 a4 a5 c1 c2 c4 c5 H.size made size tooG kept sizes rows taken p1 p2 _ _ hst) (cwV 2 hB (goodV wd_198 wd_199 wd_200 wd_1 wd_201) rfl rfl rfl (by decide +kernel) ⟨Nat.le_of_ble_eq_true rfl, Nat.le_of_ble_eq_true rfl⟩) ⟨pcX_blind, va_recv hKc hPc (ci := 1) (q0 := 0) rfl rfl, pcX_pre hPc hKc hDc hS hX.1 hFc h⟩ rfl rfl hl.1 rfl (lv_room (Nat.le_of_ble_eq_true rfl)) d_L_times_5 ⟨Nat.le_of_ble_eq_true rfl, Nat.le_of_ble_eq_true rfl⟩) hS (fun q _ h => hFc q h) hFc (fun q _ h => hFc q h) (fun E ce q9 u t H1 locs ht hvm _ hBu hz1 hk1 hS hce hcv hcl => ?_) (fun r1 u t H1 locs ht hvm h hBu hz1 hk1 hS => ?_)
  · -- thrown
    obtain ⟨made_2, size_3, tooG_4, kept_5, sizes_6, rows_7, taken_8⟩ := u
    obtain ⟨h, hP1, hK1, hD1⟩ := hBu
    rw [ht] at hP1
    obtain ⟨hP, hD⟩ := va_join (wr := [(o0, .inl (co, 1, .inr (.inl out)))]) (w1 := (wG a0 a1 a2 a3 a4 a5 c1 c2 c4 c5 made_2 size_3 tooG_4 kept_5 sizes_6 rows_7 taken_8)) hP hD [1, 2, 3, 4, 5, 6] [0] rfl rfl (by decide) (by decide) hk1 hFc hP1 hD1
    generalize H1 = H at *
    have hP : va_P D vwCl (wO o0 a0 a1 a2 a3 a4 a5 co c1 c2 c4 c5 made_2 size_3 tooG_4 out kept_5 sizes_6 rows_7 taken_8) H := hP
    have hD : va_D A (wO o0 a0 a1 a2 a3 a4 a5 co c1 c2 c4 c5 made_2 size_3 tooG_4 out kept_5 sizes_6 rows_7 taken_8) := hD
    by_cases e0 : E = "java/lang/IndexOutOfBoundsException"
    · replace h := h.1 e0
      subst e0
      refine vx_catch (own := R_L) (name := "java/lang/IndexOutOfBoundsException") hown [] ⟨0, 10, 13, 26⟩ [⟨0, 10, 17, 15⟩] (by rw [htab]; rfl) (fun z hz => by cases hz) (by decide) (by decide) (hB _ wd_173) (va_Nw.use rfl (hX.1.1 (.castable "java/lang/IndexOutOfBoundsException" "java/lang/IndexOutOfBoundsException") (by decide +kernel))) hce hcv hcl ?_
      refine W.widen (k := 4) (n := 24) (by omega) (by omega) ?_
      refine lv_astore (lv' := [(4, .ref q9), (0, .ref a0), (1, .int p1), (2, .int p2), (3, .ref o0)]) hx hb d_L_times_13 hl (by decide) rfl (fun ls hl => ?_)
      refine lv_iconst (v := 1) hx hb d_L_times_15 (by decide) ?_
      exact W.iret (v := 1) hx hb hr (fun t ht hW => ⟨⟨1, (made_2, size_3, tooG_4, out, kept_5, sizes_6, rows_7, taken_8), rfl, h, by rw [ht]; exact hP, va_K.moved hW.alike hK, hD⟩, hS.F ht⟩) hS.2.2 d_L_times_16
    · replace h := h.2 e0
      by_cases e1 : E = "java/lang/IllegalStateException"
      · replace h := h.1 e1
        subst e1
        refine vx_catch (own := R_L) (name := "java/lang/IllegalStateException") hown [⟨0, 10, 13, 26⟩] ⟨0, 10, 17, 15⟩ [] (by rw [htab]; rfl) (fun z hz => by simp only [List.mem_cons, List.not_mem_nil, or_false] at hz; rcases hz with rfl <;> first | exact Or.inr ⟨by decide, "java/lang/IndexOutOfBoundsException", hB _ wd_173, hX.2 ("java/lang/IllegalStateException", "java/lang/IndexOutOfBoundsException") (by decide +kernel)⟩ ) (by decide) (by decide) (hB _ wd_47) (va_Nw.use rfl (hX.1.1 (.castable "java/lang/IllegalStateException" "java/lang/IllegalStateException") (by decide +kernel))) hce hcv hcl ?_
        refine W.widen (k := 4) (n := 24) (by omega) (by omega) ?_
        refine lv_astore (lv' := [(4, .ref q9), (0, .ref a0), (1, .int p1), (2, .int p2), (3, .ref o0)]) hx hb d_L_times_17 hl (by decide) rfl (fun ls hl => ?_)
        refine lv_iconst (v := 2) hx hb d_L_times_19 (by decide) ?_
        exact W.iret (v := 2) hx hb hr (fun t ht hW => ⟨⟨2, (made_2, size_3, tooG_4, out, kept_5, sizes_6, rows_7, taken_8), rfl, h, by rw [ht]; exact hP, va_K.moved hW.alike hK, hD⟩, hS.F ht⟩) hS.2.2 d_L_times_20
      · replace h := h.2 e1
        exact (show False from h).elim
  ·
    obtain ⟨made_2, size_3, tooG_4, kept_5, sizes_6, rows_7, taken_8⟩ := u
    obtain ⟨hP1, hK1, hD1⟩ := hBu
    rw [ht] at hP1
    obtain ⟨hP, hD⟩ := va_join (wr := [(o0, .inl (co, 1, .inr (.inl out)))]) (w1 := (wG a0 a1 a2 a3 a4 a5 c1 c2 c4 c5 made_2 size_3 tooG_4 kept_5 sizes_6 rows_7 taken_8)) hP hD [1, 2, 3, 4, 5, 6] [0] rfl rfl (by decide) (by decide) hk1 hFc hP1 hD1
    generalize H1 = H at *
    have hP : va_P D vwCl (wO o0 a0 a1 a2 a3 a4 a5 co c1 c2 c4 c5 made_2 size_3 tooG_4 out kept_5 sizes_6 rows_7 taken_8) H := hP
    have hD : va_D A (wO o0 a0 a1 a2 a3 a4 a5 co c1 c2 c4 c5 made_2 size_3 tooG_4 out kept_5 sizes_6 rows_7 taken_8) := hD
    refine W.widen (k := 4) (n := 24) (by omega) (by omega) ?_
    refine lv_i2l hx hb d_L_times_8 rfl ?_
    obtain ⟨g9, h⟩ := h
    obtain ⟨out_10, eout_10⟩ : ∃ z : (Nat → Int64), z = vp_updL out (0 : Int32).toNatClampNeg (r1.toInt64) := ⟨_, rfl⟩
    replace h := h out_10 eout_10
    refine va_last hx hb hK hP hD hS 0 0 rfl rfl g9 d_L_times_9 (fun H locs hP hD hS => ?_)
    have hP : va_P D vwCl (wO o0 a0 a1 a2 a3 a4 a5 co c1 c2 c4 c5 made_2 size_3 tooG_4 out_10 kept_5 sizes_6 rows_7 taken_8) H := by rw [eout_10]; exact hP
    have hD : va_D A (wO o0 a0 a1 a2 a3 a4 a5 co c1 c2 c4 c5 made_2 size_3 tooG_4 out_10 kept_5 sizes_6 rows_7 taken_8) := by rw [eout_10]; exact hD
    refine lv_goto (tgt := 21) hx hb d_L_times_10 (by decide) ?_
    refine lv_iconst (v := 0) hx hb d_L_times_21 (by decide) ?_
    exact W.iret (v := 0) hx hb hr (fun t ht hW => ⟨⟨0, (made_2, size_3, tooG_4, out_10, kept_5, sizes_6, rows_7, taken_8), rfl, h, by rw [ht]; exact hP, va_K.moved hW.alike hK, hD⟩, hS.F ht⟩) hS.2.2 d_L_times_22
def wp_L_over (made : Int32) (size : Int32) (tooG : Int32) (out : (Nat → Int64)) (kept : (Nat → Int32)) (sizes : (Nat → Int32)) (rows : (Nat → Int32)) (taken : (Nat → Int32)) (p1 : Int32) (p2 : Int32) (post : Int32 → Int32 → Int32 → Int32 → (Nat → Int64) → (Nat → Int32) → (Nat → Int32) → (Nat → Int32) → (Nat → Int32) → Prop) : Prop :=
  wp_G_over made size tooG kept sizes rows taken p1 p2 (fun r1 made_2 size_3 tooG_4 kept_5 sizes_6 rows_7 taken_8 => vp_in 0 1 ∧ (∀ out_10 : (Nat → Int64), out_10 = vp_updL out (0 : Int32).toNatClampNeg (r1.toInt64) → (post 0 made_2 size_3 tooG_4 out_10 kept_5 sizes_6 rows_7 taken_8))) (fun E made_2 size_3 tooG_4 kept_5 sizes_6 rows_7 taken_8 => (E = "java/lang/IndexOutOfBoundsException" → (post 1 made_2 size_3 tooG_4 out kept_5 sizes_6 rows_7 taken_8)) ∧ (¬ E = "java/lang/IndexOutOfBoundsException" → ((E = "java/lang/IllegalStateException" → (post 2 made_2 size_3 tooG_4 out kept_5 sizes_6 rows_7 taken_8)) ∧ (¬ E = "java/lang/IllegalStateException" → (False)))))
set_option maxHeartbeats 4000000 in
set_option maxRecDepth 100000 in
theorem c_L_over (l : Launch) (D : va_G) (o0 a0 a1 a2 a3 a4 a5 : Nat) (co c1 c2 c4 c5 : ClassId) (sz : Nat) (made : Int32) (size : Int32) (tooG : Int32) (out : (Nat → Int64)) (kept : (Nat → Int32)) (sizes : (Nat → Int32)) (rows : (Nat → Int32)) (taken : (Nat → Int32)) (p1 : Int32) (p2 : Int32) (post : Int32 → Int32 → Int32 → Int32 → (Nat → Int64) → (Nat → Int32) → (Nat → Int32) → (Nat → Int32) → (Nat → Int32) → Prop) (hst : l.stackTraces = false) : Met l y_L_over (Cond.codeWith y_L_over b_L_over 5 (some .int) [(0, 10, 13, 26), (0, 10, 17, 15)] :: BIG) ({ frames := 8, cells := 4, slots := 24, locals := 153 }) (va_Pc [.ref a0, .int p1, .int p2, .ref o0] (pcH D vwCl (wO o0 a0 a1 a2 a3 a4 a5 co c1 c2 c4 c5 made size tooG out kept sizes rows taken) [(co, .long), (c1, .int), (c2, .int), (c4, .int), (c5, .int)] sz (wp_L_over made size tooG out kept sizes rows taken p1 p2 post))) (va_Qi (fun (r : Int32) (u : Int32 × Int32 × Int32 × (Nat → Int64) × (Nat → Int32) × (Nat → Int32) × (Nat → Int32) × (Nat → Int32)) => post r u.1 u.2.1 u.2.2.1 u.2.2.2.1 u.2.2.2.2.1 u.2.2.2.2.2.1 u.2.2.2.2.2.2.1 u.2.2.2.2.2.2.2) (fun u => atG D vwCl [(co, .long), (c1, .int), (c2, .int), (c4, .int), (c5, .int)] (va_A (wO o0 a0 a1 a2 a3 a4 a5 co c1 c2 c4 c5 made size tooG out kept sizes rows taken) sz) (wO o0 a0 a1 a2 a3 a4 a5 co c1 c2 c4 c5 (u.1) (u.2.1) (u.2.2.1) (u.2.2.2.1) (u.2.2.2.2.1) (u.2.2.2.2.2.1) (u.2.2.2.2.2.2.1) (u.2.2.2.2.2.2.2))) (va_A (wO o0 a0 a1 a2 a3 a4 a5 co c1 c2 c4 c5 made size tooG out kept sizes rows taken) sz)) 4 24 (va_A (wO o0 a0 a1 a2 a3 a4 a5 co c1 c2 c4 c5 made size tooG out kept sizes rows taken) sz) := by
  refine va_MetW (cc := b_L_over) (maxL := 5) (ret := (some .int)) (by decide) rfl ?_
  intro p e s m args below meth c s₁ B hml hv
  obtain ⟨rfl, hsz, hP, hK, hD0, hX, h⟩ := hv
  have hx := B.exec
  have hb := B.bytes
  have hr := B.returns
  have hat := atoms_spec (ws := (Cond.codeWith y_L_over b_L_over 5 (some .int) [(0, 10, 13, 26), (0, 10, 17, 15)] :: BIG)) B.pre
  have htab := vx_table (x := y_L_over) B (hat _ List.mem_cons_self)
  have hB : ∀ w ∈ BIG, w.before _ s = true := fun w h => hat w (List.mem_cons_of_mem _ h)
  have hown : s.vm.findClass R_L = some m.cls := findClass_of_methodNamed B.named
  have hlocks := B.notSynchronized
  subst hsz
  have hD := hD0.self (sz := s.heap.size)
  generalize hAe : va_A (wO o0 a0 a1 a2 a3 a4 a5 co c1 c2 c4 c5 made size tooG out kept sizes rows taken) s.heap.size = A at hD hX ⊢
  have hA : ∀ q : Nat, s.heap.size ≤ q → A q := fun q h => by rw [← hAe]; exact Or.inr h
  have hl := lv_entry ([.ref a0, .int p1, .int p2, .ref o0]) (n := 5) (Nat.le_of_ble_eq_true rfl)
  rw [lg_entry_eq]
  generalize (lg_sl ([.ref a0, .int p1, .int p2, .ref o0]) ++ List.replicate (5 - (lg_sl ([.ref a0, .int p1, .int p2, .ref o0])).length) Slot.unset).toArray = ls at hl ⊢
  have hl : lv_has ls 5 [(0, .ref a0), (1, .int p1), (2, .int p2), (3, .ref o0)] := hl
  refine W.cap (fun G Gi Ge => ?_)
  suffices hL : ∀ (H : Heap) (locs : List Loc), va_P D vwCl (wO o0 a0 a1 a2 a3 a4 a5 co c1 c2 c4 c5 made size tooG out kept sizes rows taken) H → va_S A s.heap H locs → G H locs (F0 m 0 ls []) from hL _ _ hP va_S.rf
  clear hP
  intro H locs hP hS
  refine Gi _ _ _ ?_
  unfold wp_L_over at h
  refine lv_aload_n hx hb d_L_over_0 rfl (lv_at hl 3 rfl) ?_
  refine lv_iconst (v := 0) hx hb d_L_over_1 (by decide) ?_
  refine lv_aload_n hx hb d_L_over_2 rfl (lv_at hl 0 rfl) ?_
  refine lv_iload_n hx hb d_L_over_3 rfl (lv_at hl 1 rfl) ?_
  refine lv_iload_n hx hb d_L_over_4 rfl (lv_at hl 2 rfl) ?_
  have hPc := hP.sub (ws' := (wG a0 a1 a2 a3 a4 a5 c1 c2 c4 c5 made size tooG kept sizes rows taken)) [1, 2, 3, 4, 5, 6] rfl
  have hDc := hD.sub (ws' := (wG a0 a1 a2 a3 a4 a5 c1 c2 c4 c5 made size tooG kept sizes rows taken)) [1, 2, 3, 4, 5, 6] (by decide) rfl
  have hKc := hK.sub (tys' := [(c1, .int), (c2, .int), (c4, .int), (c5, .int)]) [1, 2, 3, 4] rfl
  have hFc := va_free (wc := (wG a0 a1 a2 a3 a4 a5 c1 c2 c4 c5 made size tooG kept sizes rows taken)) hD hS hA [1, 2, 3, 4, 5, 6] rfl
  refine vx_calli (vx_runV (As := [.int p1, .int p2]) (rest := [.int 0, .ref o0]) ⟨hx, hb, hml, hown, hB⟩ (c_G_over l D a0 a1 a2 a3 a4 a5 c1 c2 c4 c5 H.size made size tooG kept sizes rows taken p1 p2 _ _ hst) (cwV 2 hB (goodV wd_211 wd_212 wd_213 wd_1 wd_214) rfl rfl rfl (by decide +kernel) ⟨Nat.le_of_ble_eq_true rfl, Nat.le_of_ble_eq_true rfl⟩) ⟨pcX_blind, va_recv hKc hPc (ci := 1) (q0 := 0) rfl rfl, pcX_pre hPc hKc hDc hS hX.1 hFc h⟩ rfl rfl hl.1 rfl (lv_room (Nat.le_of_ble_eq_true rfl)) d_L_over_5 ⟨Nat.le_of_ble_eq_true rfl, Nat.le_of_ble_eq_true rfl⟩) hS (fun q _ h => hFc q h) hFc (fun q _ h => hFc q h) (fun E ce q9 u t H1 locs ht hvm _ hBu hz1 hk1 hS hce hcv hcl => ?_) (fun r1 u t H1 locs ht hvm h hBu hz1 hk1 hS => ?_)
  · -- thrown
    obtain ⟨made_2, size_3, tooG_4, kept_5, sizes_6, rows_7, taken_8⟩ := u
    obtain ⟨h, hP1, hK1, hD1⟩ := hBu
    rw [ht] at hP1
    obtain ⟨hP, hD⟩ := va_join (wr := [(o0, .inl (co, 1, .inr (.inl out)))]) (w1 := (wG a0 a1 a2 a3 a4 a5 c1 c2 c4 c5 made_2 size_3 tooG_4 kept_5 sizes_6 rows_7 taken_8)) hP hD [1, 2, 3, 4, 5, 6] [0] rfl rfl (by decide) (by decide) hk1 hFc hP1 hD1
    generalize H1 = H at *
    have hP : va_P D vwCl (wO o0 a0 a1 a2 a3 a4 a5 co c1 c2 c4 c5 made_2 size_3 tooG_4 out kept_5 sizes_6 rows_7 taken_8) H := hP
    have hD : va_D A (wO o0 a0 a1 a2 a3 a4 a5 co c1 c2 c4 c5 made_2 size_3 tooG_4 out kept_5 sizes_6 rows_7 taken_8) := hD
    by_cases e0 : E = "java/lang/IndexOutOfBoundsException"
    · replace h := h.1 e0
      subst e0
      refine vx_catch (own := R_L) (name := "java/lang/IndexOutOfBoundsException") hown [] ⟨0, 10, 13, 26⟩ [⟨0, 10, 17, 15⟩] (by rw [htab]; rfl) (fun z hz => by cases hz) (by decide) (by decide) (hB _ wd_173) (va_Nw.use rfl (hX.1.1 (.castable "java/lang/IndexOutOfBoundsException" "java/lang/IndexOutOfBoundsException") (by decide +kernel))) hce hcv hcl ?_
      refine W.widen (k := 4) (n := 24) (by omega) (by omega) ?_
      refine lv_astore (lv' := [(4, .ref q9), (0, .ref a0), (1, .int p1), (2, .int p2), (3, .ref o0)]) hx hb d_L_over_13 hl (by decide) rfl (fun ls hl => ?_)
      refine lv_iconst (v := 1) hx hb d_L_over_15 (by decide) ?_
      exact W.iret (v := 1) hx hb hr (fun t ht hW => ⟨⟨1, (made_2, size_3, tooG_4, out, kept_5, sizes_6, rows_7, taken_8), rfl, h, by rw [ht]; exact hP, va_K.moved hW.alike hK, hD⟩, hS.F ht⟩) hS.2.2 d_L_over_16
    · replace h := h.2 e0
      by_cases e1 : E = "java/lang/IllegalStateException"
      · replace h := h.1 e1
        subst e1
        refine vx_catch (own := R_L) (name := "java/lang/IllegalStateException") hown [⟨0, 10, 13, 26⟩] ⟨0, 10, 17, 15⟩ [] (by rw [htab]; rfl) (fun z hz => by simp only [List.mem_cons, List.not_mem_nil, or_false] at hz; rcases hz with rfl <;> first | exact Or.inr ⟨by decide, "java/lang/IndexOutOfBoundsException", hB _ wd_173, hX.2 ("java/lang/IllegalStateException", "java/lang/IndexOutOfBoundsException") (by decide +kernel)⟩ ) (by decide) (by decide) (hB _ wd_47) (va_Nw.use rfl (hX.1.1 (.castable "java/lang/IllegalStateException" "java/lang/IllegalStateException") (by decide +kernel))) hce hcv hcl ?_
        refine W.widen (k := 4) (n := 24) (by omega) (by omega) ?_
        refine lv_astore (lv' := [(4, .ref q9), (0, .ref a0), (1, .int p1), (2, .int p2), (3, .ref o0)]) hx hb d_L_over_17 hl (by decide) rfl (fun ls hl => ?_)
        refine lv_iconst (v := 2) hx hb d_L_over_19 (by decide) ?_
        exact W.iret (v := 2) hx hb hr (fun t ht hW => ⟨⟨2, (made_2, size_3, tooG_4, out, kept_5, sizes_6, rows_7, taken_8), rfl, h, by rw [ht]; exact hP, va_K.moved hW.alike hK, hD⟩, hS.F ht⟩) hS.2.2 d_L_over_20
      · replace h := h.2 e1
        exact (show False from h).elim
  ·
    obtain ⟨made_2, size_3, tooG_4, kept_5, sizes_6, rows_7, taken_8⟩ := u
    obtain ⟨hP1, hK1, hD1⟩ := hBu
    rw [ht] at hP1
    obtain ⟨hP, hD⟩ := va_join (wr := [(o0, .inl (co, 1, .inr (.inl out)))]) (w1 := (wG a0 a1 a2 a3 a4 a5 c1 c2 c4 c5 made_2 size_3 tooG_4 kept_5 sizes_6 rows_7 taken_8)) hP hD [1, 2, 3, 4, 5, 6] [0] rfl rfl (by decide) (by decide) hk1 hFc hP1 hD1
    generalize H1 = H at *
    have hP : va_P D vwCl (wO o0 a0 a1 a2 a3 a4 a5 co c1 c2 c4 c5 made_2 size_3 tooG_4 out kept_5 sizes_6 rows_7 taken_8) H := hP
    have hD : va_D A (wO o0 a0 a1 a2 a3 a4 a5 co c1 c2 c4 c5 made_2 size_3 tooG_4 out kept_5 sizes_6 rows_7 taken_8) := hD
    refine W.widen (k := 4) (n := 24) (by omega) (by omega) ?_
    refine lv_i2l hx hb d_L_over_8 rfl ?_
    obtain ⟨g9, h⟩ := h
    obtain ⟨out_10, eout_10⟩ : ∃ z : (Nat → Int64), z = vp_updL out (0 : Int32).toNatClampNeg (r1.toInt64) := ⟨_, rfl⟩
    replace h := h out_10 eout_10
    refine va_last hx hb hK hP hD hS 0 0 rfl rfl g9 d_L_over_9 (fun H locs hP hD hS => ?_)
    have hP : va_P D vwCl (wO o0 a0 a1 a2 a3 a4 a5 co c1 c2 c4 c5 made_2 size_3 tooG_4 out_10 kept_5 sizes_6 rows_7 taken_8) H := by rw [eout_10]; exact hP
    have hD : va_D A (wO o0 a0 a1 a2 a3 a4 a5 co c1 c2 c4 c5 made_2 size_3 tooG_4 out_10 kept_5 sizes_6 rows_7 taken_8) := by rw [eout_10]; exact hD
    refine lv_goto (tgt := 21) hx hb d_L_over_10 (by decide) ?_
    refine lv_iconst (v := 0) hx hb d_L_over_21 (by decide) ?_
    exact W.iret (v := 0) hx hb hr (fun t ht hW => ⟨⟨0, (made_2, size_3, tooG_4, out_10, kept_5, sizes_6, rows_7, taken_8), rfl, h, by rw [ht]; exact hP, va_K.moved hW.alike hK, hD⟩, hS.F ht⟩) hS.2.2 d_L_over_22
def wp_L_derive (made : Int32) (size : Int32) (tooG : Int32) (out : (Nat → Int64)) (kept : (Nat → Int32)) (sizes : (Nat → Int32)) (rows : (Nat → Int32)) (taken : (Nat → Int32)) (p1 : Int32) (post : Int32 → Int32 → Int32 → Int32 → (Nat → Int64) → (Nat → Int32) → (Nat → Int32) → (Nat → Int32) → (Nat → Int32) → Prop) : Prop :=
  wp_G_derive made size tooG kept sizes rows taken p1 (fun r1 made_2 size_3 tooG_4 kept_5 sizes_6 rows_7 taken_8 => vp_in 0 1 ∧ (∀ out_10 : (Nat → Int64), out_10 = vp_updL out (0 : Int32).toNatClampNeg (r1.toInt64) → (post 0 made_2 size_3 tooG_4 out_10 kept_5 sizes_6 rows_7 taken_8))) (fun E made_2 size_3 tooG_4 kept_5 sizes_6 rows_7 taken_8 => (E = "java/lang/IndexOutOfBoundsException" → (post 1 made_2 size_3 tooG_4 out kept_5 sizes_6 rows_7 taken_8)) ∧ (¬ E = "java/lang/IndexOutOfBoundsException" → ((E = "java/lang/IllegalStateException" → (post 2 made_2 size_3 tooG_4 out kept_5 sizes_6 rows_7 taken_8)) ∧ (¬ E = "java/lang/IllegalStateException" → (False)))))
set_option maxHeartbeats 4000000 in
set_option maxRecDepth 100000 in
theorem c_L_derive (l : Launch) (D : va_G) (o0 a0 a1 a2 a3 a4 a5 : Nat) (co c1 c2 c4 c5 : ClassId) (sz : Nat) (made : Int32) (size : Int32) (tooG : Int32) (out : (Nat → Int64)) (kept : (Nat → Int32)) (sizes : (Nat → Int32)) (rows : (Nat → Int32)) (taken : (Nat → Int32)) (p1 : Int32) (post : Int32 → Int32 → Int32 → Int32 → (Nat → Int64) → (Nat → Int32) → (Nat → Int32) → (Nat → Int32) → (Nat → Int32) → Prop) (hst : l.stackTraces = false) : Met l y_L_derive (Cond.codeWith y_L_derive b_L_derive 4 (some .int) [(0, 9, 12, 26), (0, 9, 15, 15)] :: BIG) ({ frames := 8, cells := 3, slots := 18, locals := 176 }) (va_Pc [.ref a0, .int p1, .ref o0] (pcH D vwCl (wO o0 a0 a1 a2 a3 a4 a5 co c1 c2 c4 c5 made size tooG out kept sizes rows taken) [(co, .long), (c1, .int), (c2, .int), (c4, .int), (c5, .int)] sz (wp_L_derive made size tooG out kept sizes rows taken p1 post))) (va_Qi (fun (r : Int32) (u : Int32 × Int32 × Int32 × (Nat → Int64) × (Nat → Int32) × (Nat → Int32) × (Nat → Int32) × (Nat → Int32)) => post r u.1 u.2.1 u.2.2.1 u.2.2.2.1 u.2.2.2.2.1 u.2.2.2.2.2.1 u.2.2.2.2.2.2.1 u.2.2.2.2.2.2.2) (fun u => atG D vwCl [(co, .long), (c1, .int), (c2, .int), (c4, .int), (c5, .int)] (va_A (wO o0 a0 a1 a2 a3 a4 a5 co c1 c2 c4 c5 made size tooG out kept sizes rows taken) sz) (wO o0 a0 a1 a2 a3 a4 a5 co c1 c2 c4 c5 (u.1) (u.2.1) (u.2.2.1) (u.2.2.2.1) (u.2.2.2.2.1) (u.2.2.2.2.2.1) (u.2.2.2.2.2.2.1) (u.2.2.2.2.2.2.2))) (va_A (wO o0 a0 a1 a2 a3 a4 a5 co c1 c2 c4 c5 made size tooG out kept sizes rows taken) sz)) 3 18 (va_A (wO o0 a0 a1 a2 a3 a4 a5 co c1 c2 c4 c5 made size tooG out kept sizes rows taken) sz) := by
  refine va_MetW (cc := b_L_derive) (maxL := 4) (ret := (some .int)) (by decide) rfl ?_
  intro p e s m args below meth c s₁ B hml hv
  obtain ⟨rfl, hsz, hP, hK, hD0, hX, h⟩ := hv
  have hx := B.exec
  have hb := B.bytes
  have hr := B.returns
  have hat := atoms_spec (ws := (Cond.codeWith y_L_derive b_L_derive 4 (some .int) [(0, 9, 12, 26), (0, 9, 15, 15)] :: BIG)) B.pre
  have htab := vx_table (x := y_L_derive) B (hat _ List.mem_cons_self)
  have hB : ∀ w ∈ BIG, w.before _ s = true := fun w h => hat w (List.mem_cons_of_mem _ h)
  have hown : s.vm.findClass R_L = some m.cls := findClass_of_methodNamed B.named
  have hlocks := B.notSynchronized
  subst hsz
  have hD := hD0.self (sz := s.heap.size)
  generalize hAe : va_A (wO o0 a0 a1 a2 a3 a4 a5 co c1 c2 c4 c5 made size tooG out kept sizes rows taken) s.heap.size = A at hD hX ⊢
  have hA : ∀ q : Nat, s.heap.size ≤ q → A q := fun q h => by rw [← hAe]; exact Or.inr h
  have hl := lv_entry ([.ref a0, .int p1, .ref o0]) (n := 4) (Nat.le_of_ble_eq_true rfl)
  rw [lg_entry_eq]
  generalize (lg_sl ([.ref a0, .int p1, .ref o0]) ++ List.replicate (4 - (lg_sl ([.ref a0, .int p1, .ref o0])).length) Slot.unset).toArray = ls at hl ⊢
  have hl : lv_has ls 4 [(0, .ref a0), (1, .int p1), (2, .ref o0)] := hl
  refine W.cap (fun G Gi Ge => ?_)
  suffices hL : ∀ (H : Heap) (locs : List Loc), va_P D vwCl (wO o0 a0 a1 a2 a3 a4 a5 co c1 c2 c4 c5 made size tooG out kept sizes rows taken) H → va_S A s.heap H locs → G H locs (F0 m 0 ls []) from hL _ _ hP va_S.rf
  clear hP
  intro H locs hP hS
  refine Gi _ _ _ ?_
  unfold wp_L_derive at h
  refine lv_aload_n hx hb d_L_derive_0 rfl (lv_at hl 2 rfl) ?_
  refine lv_iconst (v := 0) hx hb d_L_derive_1 (by decide) ?_
  refine lv_aload_n hx hb d_L_derive_2 rfl (lv_at hl 0 rfl) ?_
  refine lv_iload_n hx hb d_L_derive_3 rfl (lv_at hl 1 rfl) ?_
  have hPc := hP.sub (ws' := (wG a0 a1 a2 a3 a4 a5 c1 c2 c4 c5 made size tooG kept sizes rows taken)) [1, 2, 3, 4, 5, 6] rfl
  have hDc := hD.sub (ws' := (wG a0 a1 a2 a3 a4 a5 c1 c2 c4 c5 made size tooG kept sizes rows taken)) [1, 2, 3, 4, 5, 6] (by decide) rfl
  have hKc := hK.sub (tys' := [(c1, .int), (c2, .int), (c4, .int), (c5, .int)]) [1, 2, 3, 4] rfl
  have hFc := va_free (wc := (wG a0 a1 a2 a3 a4 a5 c1 c2 c4 c5 made size tooG kept sizes rows taken)) hD hS hA [1, 2, 3, 4, 5, 6] rfl
  refine vx_calli (vx_runV (As := [.int p1]) (rest := [.int 0, .ref o0]) ⟨hx, hb, hml, hown, hB⟩ (c_G_derive l D a0 a1 a2 a3 a4 a5 c1 c2 c4 c5 H.size made size tooG kept sizes rows taken p1 _ _ hst) (cwV 1 hB (goodV wd_222 wd_223 wd_224 wd_1 wd_225) rfl rfl rfl (by decide +kernel) ⟨Nat.le_of_ble_eq_true rfl, Nat.le_of_ble_eq_true rfl⟩) ⟨pcX_blind, va_recv hKc hPc (ci := 1) (q0 := 0) rfl rfl, pcX_pre hPc hKc hDc hS hX.1 hFc h⟩ rfl rfl hl.1 rfl (lv_room (Nat.le_of_ble_eq_true rfl)) d_L_derive_4 ⟨Nat.le_of_ble_eq_true rfl, Nat.le_of_ble_eq_true rfl⟩) hS (fun q _ h => hFc q h) hFc (fun q _ h => hFc q h) (fun E ce q9 u t H1 locs ht hvm _ hBu hz1 hk1 hS hce hcv hcl => ?_) (fun r1 u t H1 locs ht hvm h hBu hz1 hk1 hS => ?_)
  · -- thrown
    obtain ⟨made_2, size_3, tooG_4, kept_5, sizes_6, rows_7, taken_8⟩ := u
    obtain ⟨h, hP1, hK1, hD1⟩ := hBu
    rw [ht] at hP1
    obtain ⟨hP, hD⟩ := va_join (wr := [(o0, .inl (co, 1, .inr (.inl out)))]) (w1 := (wG a0 a1 a2 a3 a4 a5 c1 c2 c4 c5 made_2 size_3 tooG_4 kept_5 sizes_6 rows_7 taken_8)) hP hD [1, 2, 3, 4, 5, 6] [0] rfl rfl (by decide) (by decide) hk1 hFc hP1 hD1
    generalize H1 = H at *
    have hP : va_P D vwCl (wO o0 a0 a1 a2 a3 a4 a5 co c1 c2 c4 c5 made_2 size_3 tooG_4 out kept_5 sizes_6 rows_7 taken_8) H := hP
    have hD : va_D A (wO o0 a0 a1 a2 a3 a4 a5 co c1 c2 c4 c5 made_2 size_3 tooG_4 out kept_5 sizes_6 rows_7 taken_8) := hD
    by_cases e0 : E = "java/lang/IndexOutOfBoundsException"
    · replace h := h.1 e0
      subst e0
      refine vx_catch (own := R_L) (name := "java/lang/IndexOutOfBoundsException") hown [] ⟨0, 9, 12, 26⟩ [⟨0, 9, 15, 15⟩] (by rw [htab]; rfl) (fun z hz => by cases hz) (by decide) (by decide) (hB _ wd_173) (va_Nw.use rfl (hX.1.1 (.castable "java/lang/IndexOutOfBoundsException" "java/lang/IndexOutOfBoundsException") (by decide +kernel))) hce hcv hcl ?_
      refine W.widen (k := 3) (n := 18) (by omega) (by omega) ?_
      refine lv_astore_n (lv' := [(3, .ref q9), (0, .ref a0), (1, .int p1), (2, .ref o0)]) hx hb d_L_derive_12 rfl hl (by decide) rfl (fun ls hl => ?_)
      refine lv_iconst (v := 1) hx hb d_L_derive_13 (by decide) ?_
      exact W.iret (v := 1) hx hb hr (fun t ht hW => ⟨⟨1, (made_2, size_3, tooG_4, out, kept_5, sizes_6, rows_7, taken_8), rfl, h, by rw [ht]; exact hP, va_K.moved hW.alike hK, hD⟩, hS.F ht⟩) hS.2.2 d_L_derive_14
    · replace h := h.2 e0
      by_cases e1 : E = "java/lang/IllegalStateException"
      · replace h := h.1 e1
        subst e1
        refine vx_catch (own := R_L) (name := "java/lang/IllegalStateException") hown [⟨0, 9, 12, 26⟩] ⟨0, 9, 15, 15⟩ [] (by rw [htab]; rfl) (fun z hz => by simp only [List.mem_cons, List.not_mem_nil, or_false] at hz; rcases hz with rfl <;> first | exact Or.inr ⟨by decide, "java/lang/IndexOutOfBoundsException", hB _ wd_173, hX.2 ("java/lang/IllegalStateException", "java/lang/IndexOutOfBoundsException") (by decide +kernel)⟩ ) (by decide) (by decide) (hB _ wd_47) (va_Nw.use rfl (hX.1.1 (.castable "java/lang/IllegalStateException" "java/lang/IllegalStateException") (by decide +kernel))) hce hcv hcl ?_
        refine W.widen (k := 3) (n := 18) (by omega) (by omega) ?_
        refine lv_astore_n (lv' := [(3, .ref q9), (0, .ref a0), (1, .int p1), (2, .ref o0)]) hx hb d_L_derive_15 rfl hl (by decide) rfl (fun ls hl => ?_)
        refine lv_iconst (v := 2) hx hb d_L_derive_16 (by decide) ?_
        exact W.iret (v := 2) hx hb hr (fun t ht hW => ⟨⟨2, (made_2, size_3, tooG_4, out, kept_5, sizes_6, rows_7, taken_8), rfl, h, by rw [ht]; exact hP, va_K.moved hW.alike hK, hD⟩, hS.F ht⟩) hS.2.2 d_L_derive_17
      · replace h := h.2 e1
        exact (show False from h).elim
  ·
    obtain ⟨made_2, size_3, tooG_4, kept_5, sizes_6, rows_7, taken_8⟩ := u
    obtain ⟨hP1, hK1, hD1⟩ := hBu
    rw [ht] at hP1
    obtain ⟨hP, hD⟩ := va_join (wr := [(o0, .inl (co, 1, .inr (.inl out)))]) (w1 := (wG a0 a1 a2 a3 a4 a5 c1 c2 c4 c5 made_2 size_3 tooG_4 kept_5 sizes_6 rows_7 taken_8)) hP hD [1, 2, 3, 4, 5, 6] [0] rfl rfl (by decide) (by decide) hk1 hFc hP1 hD1
    generalize H1 = H at *
    have hP : va_P D vwCl (wO o0 a0 a1 a2 a3 a4 a5 co c1 c2 c4 c5 made_2 size_3 tooG_4 out kept_5 sizes_6 rows_7 taken_8) H := hP
    have hD : va_D A (wO o0 a0 a1 a2 a3 a4 a5 co c1 c2 c4 c5 made_2 size_3 tooG_4 out kept_5 sizes_6 rows_7 taken_8) := hD
    refine W.widen (k := 3) (n := 18) (by omega) (by omega) ?_
    refine lv_i2l hx hb d_L_derive_7 rfl ?_
    obtain ⟨g9, h⟩ := h
    obtain ⟨out_10, eout_10⟩ : ∃ z : (Nat → Int64), z = vp_updL out (0 : Int32).toNatClampNeg (r1.toInt64) := ⟨_, rfl⟩
    replace h := h out_10 eout_10
    refine va_last hx hb hK hP hD hS 0 0 rfl rfl g9 d_L_derive_8 (fun H locs hP hD hS => ?_)
    have hP : va_P D vwCl (wO o0 a0 a1 a2 a3 a4 a5 co c1 c2 c4 c5 made_2 size_3 tooG_4 out_10 kept_5 sizes_6 rows_7 taken_8) H := by rw [eout_10]; exact hP
    have hD : va_D A (wO o0 a0 a1 a2 a3 a4 a5 co c1 c2 c4 c5 made_2 size_3 tooG_4 out_10 kept_5 sizes_6 rows_7 taken_8) := by rw [eout_10]; exact hD
    refine lv_goto (tgt := 18) hx hb d_L_derive_9 (by decide) ?_
    refine lv_iconst (v := 0) hx hb d_L_derive_18 (by decide) ?_
    exact W.iret (v := 0) hx hb hr (fun t ht hW => ⟨⟨0, (made_2, size_3, tooG_4, out_10, kept_5, sizes_6, rows_7, taken_8), rfl, h, by rw [ht]; exact hP, va_K.moved hW.alike hK, hD⟩, hS.F ht⟩) hS.2.2 d_L_derive_19
def wp_L_logarithm (made : Int32) (size : Int32) (tooG : Int32) (out : (Nat → Int64)) (kept : (Nat → Int32)) (sizes : (Nat → Int32)) (rows : (Nat → Int32)) (taken : (Nat → Int32)) (p1 : Int32) (post : Int32 → Int32 → Int32 → Int32 → (Nat → Int64) → (Nat → Int32) → (Nat → Int32) → (Nat → Int32) → (Nat → Int32) → Prop) : Prop :=
  wp_G_logarithm made size tooG kept sizes rows taken p1 (fun r1 made_2 size_3 tooG_4 kept_5 sizes_6 rows_7 taken_8 => vp_in 0 1 ∧ (∀ out_10 : (Nat → Int64), out_10 = vp_updL out (0 : Int32).toNatClampNeg (r1.toInt64) → (post 0 made_2 size_3 tooG_4 out_10 kept_5 sizes_6 rows_7 taken_8))) (fun E made_2 size_3 tooG_4 kept_5 sizes_6 rows_7 taken_8 => (E = "java/lang/IndexOutOfBoundsException" → (post 1 made_2 size_3 tooG_4 out kept_5 sizes_6 rows_7 taken_8)) ∧ (¬ E = "java/lang/IndexOutOfBoundsException" → ((E = "java/lang/IllegalStateException" → (post 2 made_2 size_3 tooG_4 out kept_5 sizes_6 rows_7 taken_8)) ∧ (¬ E = "java/lang/IllegalStateException" → (False)))))
set_option maxHeartbeats 4000000 in
set_option maxRecDepth 100000 in
theorem c_L_logarithm (l : Launch) (D : va_G) (o0 a0 a1 a2 a3 a4 a5 : Nat) (co c1 c2 c4 c5 : ClassId) (sz : Nat) (made : Int32) (size : Int32) (tooG : Int32) (out : (Nat → Int64)) (kept : (Nat → Int32)) (sizes : (Nat → Int32)) (rows : (Nat → Int32)) (taken : (Nat → Int32)) (p1 : Int32) (post : Int32 → Int32 → Int32 → Int32 → (Nat → Int64) → (Nat → Int32) → (Nat → Int32) → (Nat → Int32) → (Nat → Int32) → Prop) (hst : l.stackTraces = false) : Met l y_L_logarithm (Cond.codeWith y_L_logarithm b_L_logarithm 4 (some .int) [(0, 9, 12, 26), (0, 9, 15, 15)] :: BIG) ({ frames := 8, cells := 3, slots := 18, locals := 173 }) (va_Pc [.ref a0, .int p1, .ref o0] (pcH D vwCl (wO o0 a0 a1 a2 a3 a4 a5 co c1 c2 c4 c5 made size tooG out kept sizes rows taken) [(co, .long), (c1, .int), (c2, .int), (c4, .int), (c5, .int)] sz (wp_L_logarithm made size tooG out kept sizes rows taken p1 post))) (va_Qi (fun (r : Int32) (u : Int32 × Int32 × Int32 × (Nat → Int64) × (Nat → Int32) × (Nat → Int32) × (Nat → Int32) × (Nat → Int32)) => post r u.1 u.2.1 u.2.2.1 u.2.2.2.1 u.2.2.2.2.1 u.2.2.2.2.2.1 u.2.2.2.2.2.2.1 u.2.2.2.2.2.2.2) (fun u => atG D vwCl [(co, .long), (c1, .int), (c2, .int), (c4, .int), (c5, .int)] (va_A (wO o0 a0 a1 a2 a3 a4 a5 co c1 c2 c4 c5 made size tooG out kept sizes rows taken) sz) (wO o0 a0 a1 a2 a3 a4 a5 co c1 c2 c4 c5 (u.1) (u.2.1) (u.2.2.1) (u.2.2.2.1) (u.2.2.2.2.1) (u.2.2.2.2.2.1) (u.2.2.2.2.2.2.1) (u.2.2.2.2.2.2.2))) (va_A (wO o0 a0 a1 a2 a3 a4 a5 co c1 c2 c4 c5 made size tooG out kept sizes rows taken) sz)) 3 18 (va_A (wO o0 a0 a1 a2 a3 a4 a5 co c1 c2 c4 c5 made size tooG out kept sizes rows taken) sz) := by
  refine va_MetW (cc := b_L_logarithm) (maxL := 4) (ret := (some .int)) (by decide) rfl ?_
  intro p e s m args below meth c s₁ B hml hv
  obtain ⟨rfl, hsz, hP, hK, hD0, hX, h⟩ := hv
  have hx := B.exec
  have hb := B.bytes
  have hr := B.returns
  have hat := atoms_spec (ws := (Cond.codeWith y_L_logarithm b_L_logarithm 4 (some .int) [(0, 9, 12, 26), (0, 9, 15, 15)] :: BIG)) B.pre
  have htab := vx_table (x := y_L_logarithm) B (hat _ List.mem_cons_self)
  have hB : ∀ w ∈ BIG, w.before _ s = true := fun w h => hat w (List.mem_cons_of_mem _ h)
  have hown : s.vm.findClass R_L = some m.cls := findClass_of_methodNamed B.named
  have hlocks := B.notSynchronized
  subst hsz
  have hD := hD0.self (sz := s.heap.size)
  generalize hAe : va_A (wO o0 a0 a1 a2 a3 a4 a5 co c1 c2 c4 c5 made size tooG out kept sizes rows taken) s.heap.size = A at hD hX ⊢
  have hA : ∀ q : Nat, s.heap.size ≤ q → A q := fun q h => by rw [← hAe]; exact Or.inr h
  have hl := lv_entry ([.ref a0, .int p1, .ref o0]) (n := 4) (Nat.le_of_ble_eq_true rfl)
  rw [lg_entry_eq]
  generalize (lg_sl ([.ref a0, .int p1, .ref o0]) ++ List.replicate (4 - (lg_sl ([.ref a0, .int p1, .ref o0])).length) Slot.unset).toArray = ls at hl ⊢
  have hl : lv_has ls 4 [(0, .ref a0), (1, .int p1), (2, .ref o0)] := hl
  refine W.cap (fun G Gi Ge => ?_)
  suffices hL : ∀ (H : Heap) (locs : List Loc), va_P D vwCl (wO o0 a0 a1 a2 a3 a4 a5 co c1 c2 c4 c5 made size tooG out kept sizes rows taken) H → va_S A s.heap H locs → G H locs (F0 m 0 ls []) from hL _ _ hP va_S.rf
  clear hP
  intro H locs hP hS
  refine Gi _ _ _ ?_
  unfold wp_L_logarithm at h
  refine lv_aload_n hx hb d_L_logarithm_0 rfl (lv_at hl 2 rfl) ?_
  refine lv_iconst (v := 0) hx hb d_L_logarithm_1 (by decide) ?_
  refine lv_aload_n hx hb d_L_logarithm_2 rfl (lv_at hl 0 rfl) ?_
  refine lv_iload_n hx hb d_L_logarithm_3 rfl (lv_at hl 1 rfl) ?_
  have hPc := hP.sub (ws' := (wG a0 a1 a2 a3 a4 a5 c1 c2 c4 c5 made size tooG kept sizes rows taken)) [1, 2, 3, 4, 5, 6] rfl
  have hDc := hD.sub (ws' := (wG a0 a1 a2 a3 a4 a5 c1 c2 c4 c5 made size tooG kept sizes rows taken)) [1, 2, 3, 4, 5, 6] (by decide) rfl
  have hKc := hK.sub (tys' := [(c1, .int), (c2, .int), (c4, .int), (c5, .int)]) [1, 2, 3, 4] rfl
  have hFc := va_free (wc := (wG a0 a1 a2 a3 a4 a5 c1 c2 c4 c5 made size tooG kept sizes rows taken)) hD hS hA [1, 2, 3, 4, 5, 6] rfl
  refine vx_calli (vx_runV (As := [.int p1]) (rest := [.int 0, .ref o0]) ⟨hx, hb, hml, hown, hB⟩ (c_G_logarithm l D a0 a1 a2 a3 a4 a5 c1 c2 c4 c5 H.size made size tooG kept sizes rows taken p1 _ _ hst) (cwV 1 hB (goodV wd_232 wd_233 wd_234 wd_1 wd_235) rfl rfl rfl (by decide +kernel) ⟨Nat.le_of_ble_eq_true rfl, Nat.le_of_ble_eq_true rfl⟩) ⟨pcX_blind, va_recv hKc hPc (ci := 1) (q0 := 0) rfl rfl, pcX_pre hPc hKc hDc hS hX.1 hFc h⟩ rfl rfl hl.1 rfl (lv_room (Nat.le_of_ble_eq_true rfl)) d_L_logarithm_4 ⟨Nat.le_of_ble_eq_true rfl, Nat.le_of_ble_eq_true rfl⟩) hS (fun q _ h => hFc q h) hFc (fun q _ h => hFc q h) (fun E ce q9 u t H1 locs ht hvm _ hBu hz1 hk1 hS hce hcv hcl => ?_) (fun r1 u t H1 locs ht hvm h hBu hz1 hk1 hS => ?_)
  · -- thrown
    obtain ⟨made_2, size_3, tooG_4, kept_5, sizes_6, rows_7, taken_8⟩ := u
    obtain ⟨h, hP1, hK1, hD1⟩ := hBu
    rw [ht] at hP1
    obtain ⟨hP, hD⟩ := va_join (wr := [(o0, .inl (co, 1, .inr (.inl out)))]) (w1 := (wG a0 a1 a2 a3 a4 a5 c1 c2 c4 c5 made_2 size_3 tooG_4 kept_5 sizes_6 rows_7 taken_8)) hP hD [1, 2, 3, 4, 5, 6] [0] rfl rfl (by decide) (by decide) hk1 hFc hP1 hD1
    generalize H1 = H at *
    have hP : va_P D vwCl (wO o0 a0 a1 a2 a3 a4 a5 co c1 c2 c4 c5 made_2 size_3 tooG_4 out kept_5 sizes_6 rows_7 taken_8) H := hP
    have hD : va_D A (wO o0 a0 a1 a2 a3 a4 a5 co c1 c2 c4 c5 made_2 size_3 tooG_4 out kept_5 sizes_6 rows_7 taken_8) := hD
    by_cases e0 : E = "java/lang/IndexOutOfBoundsException"
    · replace h := h.1 e0
      subst e0
      refine vx_catch (own := R_L) (name := "java/lang/IndexOutOfBoundsException") hown [] ⟨0, 9, 12, 26⟩ [⟨0, 9, 15, 15⟩] (by rw [htab]; rfl) (fun z hz => by cases hz) (by decide) (by decide) (hB _ wd_173) (va_Nw.use rfl (hX.1.1 (.castable "java/lang/IndexOutOfBoundsException" "java/lang/IndexOutOfBoundsException") (by decide +kernel))) hce hcv hcl ?_
      refine W.widen (k := 3) (n := 18) (by omega) (by omega) ?_
      refine lv_astore_n (lv' := [(3, .ref q9), (0, .ref a0), (1, .int p1), (2, .ref o0)]) hx hb d_L_logarithm_12 rfl hl (by decide) rfl (fun ls hl => ?_)
      refine lv_iconst (v := 1) hx hb d_L_logarithm_13 (by decide) ?_
      exact W.iret (v := 1) hx hb hr (fun t ht hW => ⟨⟨1, (made_2, size_3, tooG_4, out, kept_5, sizes_6, rows_7, taken_8), rfl, h, by rw [ht]; exact hP, va_K.moved hW.alike hK, hD⟩, hS.F ht⟩) hS.2.2 d_L_logarithm_14
    · replace h := h.2 e0
      by_cases e1 : E = "java/lang/IllegalStateException"
      · replace h := h.1 e1
        subst e1
        refine vx_catch (own := R_L) (name := "java/lang/IllegalStateException") hown [⟨0, 9, 12, 26⟩] ⟨0, 9, 15, 15⟩ [] (by rw [htab]; rfl) (fun z hz => by simp only [List.mem_cons, List.not_mem_nil, or_false] at hz; rcases hz with rfl <;> first | exact Or.inr ⟨by decide, "java/lang/IndexOutOfBoundsException", hB _ wd_173, hX.2 ("java/lang/IllegalStateException", "java/lang/IndexOutOfBoundsException") (by decide +kernel)⟩ ) (by decide) (by decide) (hB _ wd_47) (va_Nw.use rfl (hX.1.1 (.castable "java/lang/IllegalStateException" "java/lang/IllegalStateException") (by decide +kernel))) hce hcv hcl ?_
        refine W.widen (k := 3) (n := 18) (by omega) (by omega) ?_
        refine lv_astore_n (lv' := [(3, .ref q9), (0, .ref a0), (1, .int p1), (2, .ref o0)]) hx hb d_L_logarithm_15 rfl hl (by decide) rfl (fun ls hl => ?_)
        refine lv_iconst (v := 2) hx hb d_L_logarithm_16 (by decide) ?_
        exact W.iret (v := 2) hx hb hr (fun t ht hW => ⟨⟨2, (made_2, size_3, tooG_4, out, kept_5, sizes_6, rows_7, taken_8), rfl, h, by rw [ht]; exact hP, va_K.moved hW.alike hK, hD⟩, hS.F ht⟩) hS.2.2 d_L_logarithm_17
      · replace h := h.2 e1
        exact (show False from h).elim
  ·
    obtain ⟨made_2, size_3, tooG_4, kept_5, sizes_6, rows_7, taken_8⟩ := u
    obtain ⟨hP1, hK1, hD1⟩ := hBu
    rw [ht] at hP1
    obtain ⟨hP, hD⟩ := va_join (wr := [(o0, .inl (co, 1, .inr (.inl out)))]) (w1 := (wG a0 a1 a2 a3 a4 a5 c1 c2 c4 c5 made_2 size_3 tooG_4 kept_5 sizes_6 rows_7 taken_8)) hP hD [1, 2, 3, 4, 5, 6] [0] rfl rfl (by decide) (by decide) hk1 hFc hP1 hD1
    generalize H1 = H at *
    have hP : va_P D vwCl (wO o0 a0 a1 a2 a3 a4 a5 co c1 c2 c4 c5 made_2 size_3 tooG_4 out kept_5 sizes_6 rows_7 taken_8) H := hP
    have hD : va_D A (wO o0 a0 a1 a2 a3 a4 a5 co c1 c2 c4 c5 made_2 size_3 tooG_4 out kept_5 sizes_6 rows_7 taken_8) := hD
    refine W.widen (k := 3) (n := 18) (by omega) (by omega) ?_
    refine lv_i2l hx hb d_L_logarithm_7 rfl ?_
    obtain ⟨g9, h⟩ := h
    obtain ⟨out_10, eout_10⟩ : ∃ z : (Nat → Int64), z = vp_updL out (0 : Int32).toNatClampNeg (r1.toInt64) := ⟨_, rfl⟩
    replace h := h out_10 eout_10
    refine va_last hx hb hK hP hD hS 0 0 rfl rfl g9 d_L_logarithm_8 (fun H locs hP hD hS => ?_)
    have hP : va_P D vwCl (wO o0 a0 a1 a2 a3 a4 a5 co c1 c2 c4 c5 made_2 size_3 tooG_4 out_10 kept_5 sizes_6 rows_7 taken_8) H := by rw [eout_10]; exact hP
    have hD : va_D A (wO o0 a0 a1 a2 a3 a4 a5 co c1 c2 c4 c5 made_2 size_3 tooG_4 out_10 kept_5 sizes_6 rows_7 taken_8) := by rw [eout_10]; exact hD
    refine lv_goto (tgt := 18) hx hb d_L_logarithm_9 (by decide) ?_
    refine lv_iconst (v := 0) hx hb d_L_logarithm_18 (by decide) ?_
    exact W.iret (v := 0) hx hb hr (fun t ht hW => ⟨⟨0, (made_2, size_3, tooG_4, out_10, kept_5, sizes_6, rows_7, taken_8), rfl, h, by rw [ht]; exact hP, va_K.moved hW.alike hK, hD⟩, hS.F ht⟩) hS.2.2 d_L_logarithm_19
def wp_L_exponential (made : Int32) (size : Int32) (tooG : Int32) (out : (Nat → Int64)) (kept : (Nat → Int32)) (sizes : (Nat → Int32)) (rows : (Nat → Int32)) (taken : (Nat → Int32)) (p1 : Int32) (post : Int32 → Int32 → Int32 → Int32 → (Nat → Int64) → (Nat → Int32) → (Nat → Int32) → (Nat → Int32) → (Nat → Int32) → Prop) : Prop :=
  wp_G_exponential made size tooG kept sizes rows taken p1 (fun r1 made_2 size_3 tooG_4 kept_5 sizes_6 rows_7 taken_8 => vp_in 0 1 ∧ (∀ out_10 : (Nat → Int64), out_10 = vp_updL out (0 : Int32).toNatClampNeg (r1.toInt64) → (post 0 made_2 size_3 tooG_4 out_10 kept_5 sizes_6 rows_7 taken_8))) (fun E made_2 size_3 tooG_4 kept_5 sizes_6 rows_7 taken_8 => (E = "java/lang/IndexOutOfBoundsException" → (post 1 made_2 size_3 tooG_4 out kept_5 sizes_6 rows_7 taken_8)) ∧ (¬ E = "java/lang/IndexOutOfBoundsException" → ((E = "java/lang/IllegalStateException" → (post 2 made_2 size_3 tooG_4 out kept_5 sizes_6 rows_7 taken_8)) ∧ (¬ E = "java/lang/IllegalStateException" → (False)))))
set_option maxHeartbeats 4000000 in
set_option maxRecDepth 100000 in
theorem c_L_exponential (l : Launch) (D : va_G) (o0 a0 a1 a2 a3 a4 a5 : Nat) (co c1 c2 c4 c5 : ClassId) (sz : Nat) (made : Int32) (size : Int32) (tooG : Int32) (out : (Nat → Int64)) (kept : (Nat → Int32)) (sizes : (Nat → Int32)) (rows : (Nat → Int32)) (taken : (Nat → Int32)) (p1 : Int32) (post : Int32 → Int32 → Int32 → Int32 → (Nat → Int64) → (Nat → Int32) → (Nat → Int32) → (Nat → Int32) → (Nat → Int32) → Prop) (hst : l.stackTraces = false) : Met l y_L_exponential (Cond.codeWith y_L_exponential b_L_exponential 4 (some .int) [(0, 9, 12, 26), (0, 9, 15, 15)] :: BIG) ({ frames := 8, cells := 3, slots := 18, locals := 152 }) (va_Pc [.ref a0, .int p1, .ref o0] (pcH D vwCl (wO o0 a0 a1 a2 a3 a4 a5 co c1 c2 c4 c5 made size tooG out kept sizes rows taken) [(co, .long), (c1, .int), (c2, .int), (c4, .int), (c5, .int)] sz (wp_L_exponential made size tooG out kept sizes rows taken p1 post))) (va_Qi (fun (r : Int32) (u : Int32 × Int32 × Int32 × (Nat → Int64) × (Nat → Int32) × (Nat → Int32) × (Nat → Int32) × (Nat → Int32)) => post r u.1 u.2.1 u.2.2.1 u.2.2.2.1 u.2.2.2.2.1 u.2.2.2.2.2.1 u.2.2.2.2.2.2.1 u.2.2.2.2.2.2.2) (fun u => atG D vwCl [(co, .long), (c1, .int), (c2, .int), (c4, .int), (c5, .int)] (va_A (wO o0 a0 a1 a2 a3 a4 a5 co c1 c2 c4 c5 made size tooG out kept sizes rows taken) sz) (wO o0 a0 a1 a2 a3 a4 a5 co c1 c2 c4 c5 (u.1) (u.2.1) (u.2.2.1) (u.2.2.2.1) (u.2.2.2.2.1) (u.2.2.2.2.2.1) (u.2.2.2.2.2.2.1) (u.2.2.2.2.2.2.2))) (va_A (wO o0 a0 a1 a2 a3 a4 a5 co c1 c2 c4 c5 made size tooG out kept sizes rows taken) sz)) 3 18 (va_A (wO o0 a0 a1 a2 a3 a4 a5 co c1 c2 c4 c5 made size tooG out kept sizes rows taken) sz) := by
  refine va_MetW (cc := b_L_exponential) (maxL := 4) (ret := (some .int)) (by decide) rfl ?_
  intro p e s m args below meth c s₁ B hml hv
  obtain ⟨rfl, hsz, hP, hK, hD0, hX, h⟩ := hv
  have hx := B.exec
  have hb := B.bytes
  have hr := B.returns
  have hat := atoms_spec (ws := (Cond.codeWith y_L_exponential b_L_exponential 4 (some .int) [(0, 9, 12, 26), (0, 9, 15, 15)] :: BIG)) B.pre
  have htab := vx_table (x := y_L_exponential) B (hat _ List.mem_cons_self)
  have hB : ∀ w ∈ BIG, w.before _ s = true := fun w h => hat w (List.mem_cons_of_mem _ h)
  have hown : s.vm.findClass R_L = some m.cls := findClass_of_methodNamed B.named
  have hlocks := B.notSynchronized
  subst hsz
  have hD := hD0.self (sz := s.heap.size)
  generalize hAe : va_A (wO o0 a0 a1 a2 a3 a4 a5 co c1 c2 c4 c5 made size tooG out kept sizes rows taken) s.heap.size = A at hD hX ⊢
  have hA : ∀ q : Nat, s.heap.size ≤ q → A q := fun q h => by rw [← hAe]; exact Or.inr h
  have hl := lv_entry ([.ref a0, .int p1, .ref o0]) (n := 4) (Nat.le_of_ble_eq_true rfl)
  rw [lg_entry_eq]
  generalize (lg_sl ([.ref a0, .int p1, .ref o0]) ++ List.replicate (4 - (lg_sl ([.ref a0, .int p1, .ref o0])).length) Slot.unset).toArray = ls at hl ⊢
  have hl : lv_has ls 4 [(0, .ref a0), (1, .int p1), (2, .ref o0)] := hl
  refine W.cap (fun G Gi Ge => ?_)
  suffices hL : ∀ (H : Heap) (locs : List Loc), va_P D vwCl (wO o0 a0 a1 a2 a3 a4 a5 co c1 c2 c4 c5 made size tooG out kept sizes rows taken) H → va_S A s.heap H locs → G H locs (F0 m 0 ls []) from hL _ _ hP va_S.rf
  clear hP
  intro H locs hP hS
  refine Gi _ _ _ ?_
  unfold wp_L_exponential at h
  refine lv_aload_n hx hb d_L_exponential_0 rfl (lv_at hl 2 rfl) ?_
  refine lv_iconst (v := 0) hx hb d_L_exponential_1 (by decide) ?_
  refine lv_aload_n hx hb d_L_exponential_2 rfl (lv_at hl 0 rfl) ?_
  refine lv_iload_n hx hb d_L_exponential_3 rfl (lv_at hl 1 rfl) ?_
  have hPc := hP.sub (ws' := (wG a0 a1 a2 a3 a4 a5 c1 c2 c4 c5 made size tooG kept sizes rows taken)) [1, 2, 3, 4, 5, 6] rfl
  have hDc := hD.sub (ws' := (wG a0 a1 a2 a3 a4 a5 c1 c2 c4 c5 made size tooG kept sizes rows taken)) [1, 2, 3, 4, 5, 6] (by decide) rfl
  have hKc := hK.sub (tys' := [(c1, .int), (c2, .int), (c4, .int), (c5, .int)]) [1, 2, 3, 4] rfl
  have hFc := va_free (wc := (wG a0 a1 a2 a3 a4 a5 c1 c2 c4 c5 made size tooG kept sizes rows taken)) hD hS hA [1, 2, 3, 4, 5, 6] rfl
  refine vx_calli (vx_runV (As := [.int p1]) (rest := [.int 0, .ref o0]) ⟨hx, hb, hml, hown, hB⟩ (c_G_exponential l D a0 a1 a2 a3 a4 a5 c1 c2 c4 c5 H.size made size tooG kept sizes rows taken p1 _ _ hst) (cwV 1 hB (goodV wd_242 wd_243 wd_244 wd_1 wd_245) rfl rfl rfl (by decide +kernel) ⟨Nat.le_of_ble_eq_true rfl, Nat.le_of_ble_eq_true rfl⟩) ⟨pcX_blind, va_recv hKc hPc (ci := 1) (q0 := 0) rfl rfl, pcX_pre hPc hKc hDc hS hX.1 hFc h⟩ rfl rfl hl.1 rfl (lv_room (Nat.le_of_ble_eq_true rfl)) d_L_exponential_4 ⟨Nat.le_of_ble_eq_true rfl, Nat.le_of_ble_eq_true rfl⟩) hS (fun q _ h => hFc q h) hFc (fun q _ h => hFc q h) (fun E ce q9 u t H1 locs ht hvm _ hBu hz1 hk1 hS hce hcv hcl => ?_) (fun r1 u t H1 locs ht hvm h hBu hz1 hk1 hS => ?_)
  · -- thrown
    obtain ⟨made_2, size_3, tooG_4, kept_5, sizes_6, rows_7, taken_8⟩ := u
    obtain ⟨h, hP1, hK1, hD1⟩ := hBu
    rw [ht] at hP1
    obtain ⟨hP, hD⟩ := va_join (wr := [(o0, .inl (co, 1, .inr (.inl out)))]) (w1 := (wG a0 a1 a2 a3 a4 a5 c1 c2 c4 c5 made_2 size_3 tooG_4 kept_5 sizes_6 rows_7 taken_8)) hP hD [1, 2, 3, 4, 5, 6] [0] rfl rfl (by decide) (by decide) hk1 hFc hP1 hD1
    generalize H1 = H at *
    have hP : va_P D vwCl (wO o0 a0 a1 a2 a3 a4 a5 co c1 c2 c4 c5 made_2 size_3 tooG_4 out kept_5 sizes_6 rows_7 taken_8) H := hP
    have hD : va_D A (wO o0 a0 a1 a2 a3 a4 a5 co c1 c2 c4 c5 made_2 size_3 tooG_4 out kept_5 sizes_6 rows_7 taken_8) := hD
    by_cases e0 : E = "java/lang/IndexOutOfBoundsException"
    · replace h := h.1 e0
      subst e0
      refine vx_catch (own := R_L) (name := "java/lang/IndexOutOfBoundsException") hown [] ⟨0, 9, 12, 26⟩ [⟨0, 9, 15, 15⟩] (by rw [htab]; rfl) (fun z hz => by cases hz) (by decide) (by decide) (hB _ wd_173) (va_Nw.use rfl (hX.1.1 (.castable "java/lang/IndexOutOfBoundsException" "java/lang/IndexOutOfBoundsException") (by decide +kernel))) hce hcv hcl ?_
      refine W.widen (k := 3) (n := 18) (by omega) (by omega) ?_
      refine lv_astore_n (lv' := [(3, .ref q9), (0, .ref a0), (1, .int p1), (2, .ref o0)]) hx hb d_L_exponential_12 rfl hl (by decide) rfl (fun ls hl => ?_)
      refine lv_iconst (v := 1) hx hb d_L_exponential_13 (by decide) ?_
      exact W.iret (v := 1) hx hb hr (fun t ht hW => ⟨⟨1, (made_2, size_3, tooG_4, out, kept_5, sizes_6, rows_7, taken_8), rfl, h, by rw [ht]; exact hP, va_K.moved hW.alike hK, hD⟩, hS.F ht⟩) hS.2.2 d_L_exponential_14
    · replace h := h.2 e0
      by_cases e1 : E = "java/lang/IllegalStateException"
      · replace h := h.1 e1
        subst e1
        refine vx_catch (own := R_L) (name := "java/lang/IllegalStateException") hown [⟨0, 9, 12, 26⟩] ⟨0, 9, 15, 15⟩ [] (by rw [htab]; rfl) (fun z hz => by simp only [List.mem_cons, List.not_mem_nil, or_false] at hz; rcases hz with rfl <;> first | exact Or.inr ⟨by decide, "java/lang/IndexOutOfBoundsException", hB _ wd_173, hX.2 ("java/lang/IllegalStateException", "java/lang/IndexOutOfBoundsException") (by decide +kernel)⟩ ) (by decide) (by decide) (hB _ wd_47) (va_Nw.use rfl (hX.1.1 (.castable "java/lang/IllegalStateException" "java/lang/IllegalStateException") (by decide +kernel))) hce hcv hcl ?_
        refine W.widen (k := 3) (n := 18) (by omega) (by omega) ?_
        refine lv_astore_n (lv' := [(3, .ref q9), (0, .ref a0), (1, .int p1), (2, .ref o0)]) hx hb d_L_exponential_15 rfl hl (by decide) rfl (fun ls hl => ?_)
        refine lv_iconst (v := 2) hx hb d_L_exponential_16 (by decide) ?_
        exact W.iret (v := 2) hx hb hr (fun t ht hW => ⟨⟨2, (made_2, size_3, tooG_4, out, kept_5, sizes_6, rows_7, taken_8), rfl, h, by rw [ht]; exact hP, va_K.moved hW.alike hK, hD⟩, hS.F ht⟩) hS.2.2 d_L_exponential_17
      · replace h := h.2 e1
        exact (show False from h).elim
  ·
    obtain ⟨made_2, size_3, tooG_4, kept_5, sizes_6, rows_7, taken_8⟩ := u
    obtain ⟨hP1, hK1, hD1⟩ := hBu
    rw [ht] at hP1
    obtain ⟨hP, hD⟩ := va_join (wr := [(o0, .inl (co, 1, .inr (.inl out)))]) (w1 := (wG a0 a1 a2 a3 a4 a5 c1 c2 c4 c5 made_2 size_3 tooG_4 kept_5 sizes_6 rows_7 taken_8)) hP hD [1, 2, 3, 4, 5, 6] [0] rfl rfl (by decide) (by decide) hk1 hFc hP1 hD1
    generalize H1 = H at *
    have hP : va_P D vwCl (wO o0 a0 a1 a2 a3 a4 a5 co c1 c2 c4 c5 made_2 size_3 tooG_4 out kept_5 sizes_6 rows_7 taken_8) H := hP
    have hD : va_D A (wO o0 a0 a1 a2 a3 a4 a5 co c1 c2 c4 c5 made_2 size_3 tooG_4 out kept_5 sizes_6 rows_7 taken_8) := hD
    refine W.widen (k := 3) (n := 18) (by omega) (by omega) ?_
    refine lv_i2l hx hb d_L_exponential_7 rfl ?_
    obtain ⟨g9, h⟩ := h
    obtain ⟨out_10, eout_10⟩ : ∃ z : (Nat → Int64), z = vp_updL out (0 : Int32).toNatClampNeg (r1.toInt64) := ⟨_, rfl⟩
    replace h := h out_10 eout_10
    refine va_last hx hb hK hP hD hS 0 0 rfl rfl g9 d_L_exponential_8 (fun H locs hP hD hS => ?_)
    have hP : va_P D vwCl (wO o0 a0 a1 a2 a3 a4 a5 co c1 c2 c4 c5 made_2 size_3 tooG_4 out_10 kept_5 sizes_6 rows_7 taken_8) H := by rw [eout_10]; exact hP
    have hD : va_D A (wO o0 a0 a1 a2 a3 a4 a5 co c1 c2 c4 c5 made_2 size_3 tooG_4 out_10 kept_5 sizes_6 rows_7 taken_8) := by rw [eout_10]; exact hD
    refine lv_goto (tgt := 18) hx hb d_L_exponential_9 (by decide) ?_
    refine lv_iconst (v := 0) hx hb d_L_exponential_18 (by decide) ?_
    exact W.iret (v := 0) hx hb hr (fun t ht hW => ⟨⟨0, (made_2, size_3, tooG_4, out_10, kept_5, sizes_6, rows_7, taken_8), rfl, h, by rw [ht]; exact hP, va_K.moved hW.alike hK, hD⟩, hS.F ht⟩) hS.2.2 d_L_exponential_19
def wp_L_terms (made : Int32) (size : Int32) (tooG : Int32) (out : (Nat → Int64)) (kept : (Nat → Int32)) (sizes : (Nat → Int32)) (rows : (Nat → Int32)) (taken : (Nat → Int32)) (p1 : Int32) (post : Int32 → Int32 → Int32 → Int32 → (Nat → Int64) → (Nat → Int32) → (Nat → Int32) → (Nat → Int32) → (Nat → Int32) → Prop) : Prop :=
  wp_G_terms made sizes p1 (fun r1 => vp_in 0 1 ∧ (∀ out_3 : (Nat → Int64), out_3 = vp_updL out (0 : Int32).toNatClampNeg (r1.toInt64) → (post 0 made size tooG out_3 kept sizes rows taken))) (fun E => (E = "java/lang/IndexOutOfBoundsException" → (post 1 made size tooG out kept sizes rows taken)) ∧ (¬ E = "java/lang/IndexOutOfBoundsException" → (False)))
set_option maxHeartbeats 4000000 in
set_option maxRecDepth 100000 in
theorem c_L_terms (l : Launch) (D : va_G) (o0 a0 a1 a2 a3 a4 a5 : Nat) (co c1 c2 c4 c5 : ClassId) (sz : Nat) (made : Int32) (size : Int32) (tooG : Int32) (out : (Nat → Int64)) (kept : (Nat → Int32)) (sizes : (Nat → Int32)) (rows : (Nat → Int32)) (taken : (Nat → Int32)) (p1 : Int32) (post : Int32 → Int32 → Int32 → Int32 → (Nat → Int64) → (Nat → Int32) → (Nat → Int32) → (Nat → Int32) → (Nat → Int32) → Prop) (hst : l.stackTraces = false) : Met l y_L_terms (Cond.codeWith y_L_terms b_L_terms 4 (some .int) [(0, 9, 12, 26)] :: BIG) ({ frames := 8, cells := 1, slots := 6, locals := 132 }) (va_Pc [.ref a0, .int p1, .ref o0] (pcH D vwCl (wO o0 a0 a1 a2 a3 a4 a5 co c1 c2 c4 c5 made size tooG out kept sizes rows taken) [(co, .long), (c1, .int), (c2, .int), (c4, .int), (c5, .int)] sz (wp_L_terms made size tooG out kept sizes rows taken p1 post))) (va_Qi (fun (r : Int32) (u : Int32 × Int32 × Int32 × (Nat → Int64) × (Nat → Int32) × (Nat → Int32) × (Nat → Int32) × (Nat → Int32)) => post r u.1 u.2.1 u.2.2.1 u.2.2.2.1 u.2.2.2.2.1 u.2.2.2.2.2.1 u.2.2.2.2.2.2.1 u.2.2.2.2.2.2.2) (fun u => atG D vwCl [(co, .long), (c1, .int), (c2, .int), (c4, .int), (c5, .int)] (va_A (wO o0 a0 a1 a2 a3 a4 a5 co c1 c2 c4 c5 made size tooG out kept sizes rows taken) sz) (wO o0 a0 a1 a2 a3 a4 a5 co c1 c2 c4 c5 (u.1) (u.2.1) (u.2.2.1) (u.2.2.2.1) (u.2.2.2.2.1) (u.2.2.2.2.2.1) (u.2.2.2.2.2.2.1) (u.2.2.2.2.2.2.2))) (va_A (wO o0 a0 a1 a2 a3 a4 a5 co c1 c2 c4 c5 made size tooG out kept sizes rows taken) sz)) 1 6 (va_A (wO o0 a0 a1 a2 a3 a4 a5 co c1 c2 c4 c5 made size tooG out kept sizes rows taken) sz) := by
  refine va_MetW (cc := b_L_terms) (maxL := 4) (ret := (some .int)) (by decide) rfl ?_
  intro p e s m args below meth c s₁ B hml hv
  obtain ⟨rfl, hsz, hP, hK, hD0, hX, h⟩ := hv
  have hx := B.exec
  have hb := B.bytes
  have hr := B.returns
  have hat := atoms_spec (ws := (Cond.codeWith y_L_terms b_L_terms 4 (some .int) [(0, 9, 12, 26)] :: BIG)) B.pre
  have htab := vx_table (x := y_L_terms) B (hat _ List.mem_cons_self)
  have hB : ∀ w ∈ BIG, w.before _ s = true := fun w h => hat w (List.mem_cons_of_mem _ h)
  have hown : s.vm.findClass R_L = some m.cls := findClass_of_methodNamed B.named
  have hlocks := B.notSynchronized
  subst hsz
  have hD := hD0.self (sz := s.heap.size)
  generalize hAe : va_A (wO o0 a0 a1 a2 a3 a4 a5 co c1 c2 c4 c5 made size tooG out kept sizes rows taken) s.heap.size = A at hD hX ⊢
  have hA : ∀ q : Nat, s.heap.size ≤ q → A q := fun q h => by rw [← hAe]; exact Or.inr h
  have hl := lv_entry ([.ref a0, .int p1, .ref o0]) (n := 4) (Nat.le_of_ble_eq_true rfl)
  rw [lg_entry_eq]
  generalize (lg_sl ([.ref a0, .int p1, .ref o0]) ++ List.replicate (4 - (lg_sl ([.ref a0, .int p1, .ref o0])).length) Slot.unset).toArray = ls at hl ⊢
  have hl : lv_has ls 4 [(0, .ref a0), (1, .int p1), (2, .ref o0)] := hl
  refine W.cap (fun G Gi Ge => ?_)
  suffices hL : ∀ (H : Heap) (locs : List Loc), va_P D vwCl (wO o0 a0 a1 a2 a3 a4 a5 co c1 c2 c4 c5 made size tooG out kept sizes rows taken) H → va_S A s.heap H locs → G H locs (F0 m 0 ls []) from hL _ _ hP va_S.rf
  clear hP
  intro H locs hP hS
  refine Gi _ _ _ ?_
  unfold wp_L_terms at h
  refine lv_aload_n hx hb d_L_terms_0 rfl (lv_at hl 2 rfl) ?_
  refine lv_iconst (v := 0) hx hb d_L_terms_1 (by decide) ?_
  refine lv_aload_n hx hb d_L_terms_2 rfl (lv_at hl 0 rfl) ?_
  refine lv_iload_n hx hb d_L_terms_3 rfl (lv_at hl 1 rfl) ?_
  have hPc := hP.sub (ws' := (wG a0 a1 a2 a3 a4 a5 c1 c2 c4 c5 made size tooG kept sizes rows taken)) [1, 2, 3, 4, 5, 6] rfl
  have hDc := hD.sub (ws' := (wG a0 a1 a2 a3 a4 a5 c1 c2 c4 c5 made size tooG kept sizes rows taken)) [1, 2, 3, 4, 5, 6] (by decide) rfl
  have hKc := hK.sub (tys' := [(c1, .int), (c2, .int), (c4, .int), (c5, .int)]) [1, 2, 3, 4] rfl
  have hFc := va_free (wc := (wG a0 a1 a2 a3 a4 a5 c1 c2 c4 c5 made size tooG kept sizes rows taken)) hD hS hA [1, 2, 3, 4, 5, 6] rfl
  refine vx_calli (vx_runV (As := [.int p1]) (rest := [.int 0, .ref o0]) ⟨hx, hb, hml, hown, hB⟩ (c_G_terms l D a0 a1 a2 a3 a4 a5 c1 c2 c4 c5 H.size made size tooG kept sizes rows taken p1 _ _ hst) (cwV 1 hB (goodV wd_255 wd_256 wd_257 wd_1 wd_258) rfl rfl rfl (by decide +kernel) ⟨Nat.le_of_ble_eq_true rfl, Nat.le_of_ble_eq_true rfl⟩) ⟨pcX_blind, va_recv hKc hPc (ci := 1) (q0 := 0) rfl rfl, pcX_pre hPc hKc hDc hS hX.1 hFc h⟩ rfl rfl hl.1 rfl (lv_room (Nat.le_of_ble_eq_true rfl)) d_L_terms_4 ⟨Nat.le_of_ble_eq_true rfl, Nat.le_of_ble_eq_true rfl⟩) hS (fun q _ h => hFc q h) hFc (fun q _ h => hFc q h) (fun E ce q9 u t H1 locs ht hvm _ hBu hz1 hk1 hS hce hcv hcl => ?_) (fun r1 u t H1 locs ht hvm h hBu hz1 hk1 hS => ?_)
  · -- thrown
    obtain ⟨h, hP1, hK1, hD1⟩ := hBu
    rw [ht] at hP1
    obtain ⟨hP, hD⟩ := va_join (wr := [(o0, .inl (co, 1, .inr (.inl out)))]) (w1 := (wG a0 a1 a2 a3 a4 a5 c1 c2 c4 c5 made size tooG kept sizes rows taken)) hP hD [1, 2, 3, 4, 5, 6] [0] rfl rfl (by decide) (by decide) hk1 hFc hP1 hD1
    generalize H1 = H at *
    have hP : va_P D vwCl (wO o0 a0 a1 a2 a3 a4 a5 co c1 c2 c4 c5 made size tooG out kept sizes rows taken) H := hP
    have hD : va_D A (wO o0 a0 a1 a2 a3 a4 a5 co c1 c2 c4 c5 made size tooG out kept sizes rows taken) := hD
    by_cases e0 : E = "java/lang/IndexOutOfBoundsException"
    · replace h := h.1 e0
      subst e0
      refine vx_catch (own := R_L) (name := "java/lang/IndexOutOfBoundsException") hown [] ⟨0, 9, 12, 26⟩ [] (by rw [htab]; rfl) (fun z hz => by cases hz) (by decide) (by decide) (hB _ wd_173) (va_Nw.use rfl (hX.1.1 (.castable "java/lang/IndexOutOfBoundsException" "java/lang/IndexOutOfBoundsException") (by decide +kernel))) hce hcv hcl ?_
      refine W.widen (k := 1) (n := 6) (by omega) (by omega) ?_
      refine lv_astore_n (lv' := [(3, .ref q9), (0, .ref a0), (1, .int p1), (2, .ref o0)]) hx hb d_L_terms_12 rfl hl (by decide) rfl (fun ls hl => ?_)
      refine lv_iconst (v := 1) hx hb d_L_terms_13 (by decide) ?_
      exact W.iret (v := 1) hx hb hr (fun t ht hW => ⟨⟨1, (made, size, tooG, out, kept, sizes, rows, taken), rfl, h, by rw [ht]; exact hP, va_K.moved hW.alike hK, hD⟩, hS.F ht⟩) hS.2.2 d_L_terms_14
    · replace h := h.2 e0
      exact (show False from h).elim
  ·
    obtain ⟨hP1, hK1, hD1⟩ := hBu
    rw [ht] at hP1
    obtain ⟨hP, hD⟩ := va_join (wr := [(o0, .inl (co, 1, .inr (.inl out)))]) (w1 := (wG a0 a1 a2 a3 a4 a5 c1 c2 c4 c5 made size tooG kept sizes rows taken)) hP hD [1, 2, 3, 4, 5, 6] [0] rfl rfl (by decide) (by decide) hk1 hFc hP1 hD1
    generalize H1 = H at *
    have hP : va_P D vwCl (wO o0 a0 a1 a2 a3 a4 a5 co c1 c2 c4 c5 made size tooG out kept sizes rows taken) H := hP
    have hD : va_D A (wO o0 a0 a1 a2 a3 a4 a5 co c1 c2 c4 c5 made size tooG out kept sizes rows taken) := hD
    refine W.widen (k := 1) (n := 6) (by omega) (by omega) ?_
    refine lv_i2l hx hb d_L_terms_7 rfl ?_
    obtain ⟨g2, h⟩ := h
    obtain ⟨out_3, eout_3⟩ : ∃ z : (Nat → Int64), z = vp_updL out (0 : Int32).toNatClampNeg (r1.toInt64) := ⟨_, rfl⟩
    replace h := h out_3 eout_3
    refine va_last hx hb hK hP hD hS 0 0 rfl rfl g2 d_L_terms_8 (fun H locs hP hD hS => ?_)
    have hP : va_P D vwCl (wO o0 a0 a1 a2 a3 a4 a5 co c1 c2 c4 c5 made size tooG out_3 kept sizes rows taken) H := by rw [eout_3]; exact hP
    have hD : va_D A (wO o0 a0 a1 a2 a3 a4 a5 co c1 c2 c4 c5 made size tooG out_3 kept sizes rows taken) := by rw [eout_3]; exact hD
    refine lv_goto (tgt := 15) hx hb d_L_terms_9 (by decide) ?_
    refine lv_iconst (v := 0) hx hb d_L_terms_15 (by decide) ?_
    exact W.iret (v := 0) hx hb hr (fun t ht hW => ⟨⟨0, (made, size, tooG, out_3, kept, sizes, rows, taken), rfl, h, by rw [ht]; exact hP, va_K.moved hW.alike hK, hD⟩, hS.F ht⟩) hS.2.2 d_L_terms_16
def wp_L_term (made : Int32) (size : Int32) (tooG : Int32) (out : (Nat → Int64)) (kept : (Nat → Int32)) (sizes : (Nat → Int32)) (rows : (Nat → Int32)) (taken : (Nat → Int32)) (p1 : Int32) (p2 : Int32) (p3 : Int32) (post : Int32 → Int32 → Int32 → Int32 → (Nat → Int64) → (Nat → Int32) → (Nat → Int32) → (Nat → Int32) → (Nat → Int32) → Prop) : Prop :=
  wp_G_term made kept sizes p1 p2 p3 (fun r1 => vp_in 0 1 ∧ (∀ out_3 : (Nat → Int64), out_3 = vp_updL out (0 : Int32).toNatClampNeg (r1.toInt64) → (post 0 made size tooG out_3 kept sizes rows taken))) (fun E => (E = "java/lang/IndexOutOfBoundsException" → (post 1 made size tooG out kept sizes rows taken)) ∧ (¬ E = "java/lang/IndexOutOfBoundsException" → ((E = "java/lang/IllegalArgumentException" → (post 2 made size tooG out kept sizes rows taken)) ∧ (¬ E = "java/lang/IllegalArgumentException" → (False)))))
set_option maxHeartbeats 4000000 in
set_option maxRecDepth 100000 in
theorem c_L_term (l : Launch) (D : va_G) (o0 a0 a1 a2 a3 a4 a5 : Nat) (co c1 c2 c4 c5 : ClassId) (sz : Nat) (made : Int32) (size : Int32) (tooG : Int32) (out : (Nat → Int64)) (kept : (Nat → Int32)) (sizes : (Nat → Int32)) (rows : (Nat → Int32)) (taken : (Nat → Int32)) (p1 : Int32) (p2 : Int32) (p3 : Int32) (post : Int32 → Int32 → Int32 → Int32 → (Nat → Int64) → (Nat → Int32) → (Nat → Int32) → (Nat → Int32) → (Nat → Int32) → Prop) (hst : l.stackTraces = false) : Met l y_L_term (Cond.codeWith y_L_term b_L_term 6 (some .int) [(0, 12, 15, 26), (0, 12, 19, 21)] :: BIG) ({ frames := 8, cells := 2, slots := 12, locals := 134 }) (va_Pc [.ref a0, .int p1, .int p2, .int p3, .ref o0] (pcH D vwCl (wO o0 a0 a1 a2 a3 a4 a5 co c1 c2 c4 c5 made size tooG out kept sizes rows taken) [(co, .long), (c1, .int), (c2, .int), (c4, .int), (c5, .int)] sz (wp_L_term made size tooG out kept sizes rows taken p1 p2 p3 post))) (va_Qi (fun (r : Int32) (u : Int32 × Int32 × Int32 × (Nat → Int64) × (Nat → Int32) × (Nat → Int32) × (Nat → Int32) × (Nat → Int32)) => post r u.1 u.2.1 u.2.2.1 u.2.2.2.1 u.2.2.2.2.1 u.2.2.2.2.2.1 u.2.2.2.2.2.2.1 u.2.2.2.2.2.2.2) (fun u => atG D vwCl [(co, .long), (c1, .int), (c2, .int), (c4, .int), (c5, .int)] (va_A (wO o0 a0 a1 a2 a3 a4 a5 co c1 c2 c4 c5 made size tooG out kept sizes rows taken) sz) (wO o0 a0 a1 a2 a3 a4 a5 co c1 c2 c4 c5 (u.1) (u.2.1) (u.2.2.1) (u.2.2.2.1) (u.2.2.2.2.1) (u.2.2.2.2.2.1) (u.2.2.2.2.2.2.1) (u.2.2.2.2.2.2.2))) (va_A (wO o0 a0 a1 a2 a3 a4 a5 co c1 c2 c4 c5 made size tooG out kept sizes rows taken) sz)) 2 12 (va_A (wO o0 a0 a1 a2 a3 a4 a5 co c1 c2 c4 c5 made size tooG out kept sizes rows taken) sz) := by
  refine va_MetW (cc := b_L_term) (maxL := 6) (ret := (some .int)) (by decide) rfl ?_
  intro p e s m args below meth c s₁ B hml hv
  obtain ⟨rfl, hsz, hP, hK, hD0, hX, h⟩ := hv
  have hx := B.exec
  have hb := B.bytes
  have hr := B.returns
  have hat := atoms_spec (ws := (Cond.codeWith y_L_term b_L_term 6 (some .int) [(0, 12, 15, 26), (0, 12, 19, 21)] :: BIG)) B.pre
  have htab := vx_table (x := y_L_term) B (hat _ List.mem_cons_self)
  have hB : ∀ w ∈ BIG, w.before _ s = true := fun w h => hat w (List.mem_cons_of_mem _ h)
  have hown : s.vm.findClass R_L = some m.cls := findClass_of_methodNamed B.named
  have hlocks := B.notSynchronized
  subst hsz
  have hD := hD0.self (sz := s.heap.size)
  generalize hAe : va_A (wO o0 a0 a1 a2 a3 a4 a5 co c1 c2 c4 c5 made size tooG out kept sizes rows taken) s.heap.size = A at hD hX ⊢
  have hA : ∀ q : Nat, s.heap.size ≤ q → A q := fun q h => by rw [← hAe]; exact Or.inr h
  have hl := lv_entry ([.ref a0, .int p1, .int p2, .int p3, .ref o0]) (n := 6) (Nat.le_of_ble_eq_true rfl)
  rw [lg_entry_eq]
  generalize (lg_sl ([.ref a0, .int p1, .int p2, .int p3, .ref o0]) ++ List.replicate (6 - (lg_sl ([.ref a0, .int p1, .int p2, .int p3, .ref o0])).length) Slot.unset).toArray = ls at hl ⊢
  have hl : lv_has ls 6 [(0, .ref a0), (1, .int p1), (2, .int p2), (3, .int p3), (4, .ref o0)] := hl
  refine W.cap (fun G Gi Ge => ?_)
  suffices hL : ∀ (H : Heap) (locs : List Loc), va_P D vwCl (wO o0 a0 a1 a2 a3 a4 a5 co c1 c2 c4 c5 made size tooG out kept sizes rows taken) H → va_S A s.heap H locs → G H locs (F0 m 0 ls []) from hL _ _ hP va_S.rf
  clear hP
  intro H locs hP hS
  refine Gi _ _ _ ?_
  unfold wp_L_term at h
  refine lv_aload hx hb d_L_term_0 (lv_at hl 4 rfl) ?_
  refine lv_iconst (v := 0) hx hb d_L_term_2 (by decide) ?_
  refine lv_aload_n hx hb d_L_term_3 rfl (lv_at hl 0 rfl) ?_
  refine lv_iload_n hx hb d_L_term_4 rfl (lv_at hl 1 rfl) ?_
  refine lv_iload_n hx hb d_L_term_5 rfl (lv_at hl 2 rfl) ?_
  refine lv_iload_n hx hb d_L_term_6 rfl (lv_at hl 3 rfl) ?_
  have hPc := hP.sub (ws' := (wG a0 a1 a2 a3 a4 a5 c1 c2 c4 c5 made size tooG kept sizes rows taken)) [1, 2, 3, 4, 5, 6] rfl
  have hDc := hD.sub (ws' := (wG a0 a1 a2 a3 a4 a5 c1 c2 c4 c5 made size tooG kept sizes rows taken)) [1, 2, 3, 4, 5, 6] (by decide) rfl
  have hKc := hK.sub (tys' := [(c1, .int), (c2, .int), (c4, .int), (c5, .int)]) [1, 2, 3, 4] rfl
  have hFc := va_free (wc := (wG a0 a1 a2 a3 a4 a5 c1 c2 c4 c5 made size tooG kept sizes rows taken)) hD hS hA [1, 2, 3, 4, 5, 6] rfl
  refine vx_calli (vx_runV (As := [.int p1, .int p2, .int p3]) (rest := [.int 0, .ref o0]) ⟨hx, hb, hml, hown, hB⟩ (c_G_term l D a0 a1 a2 a3 a4 a5 c1 c2 c4 c5 H.size made size tooG kept sizes rows taken p1 p2 p3 _ _ hst) (cwV 3 hB (goodV wd_262 wd_263 wd_264 wd_1 wd_265) rfl rfl rfl (by decide +kernel) ⟨Nat.le_of_ble_eq_true rfl, Nat.le_of_ble_eq_true rfl⟩) ⟨pcX_blind, va_recv hKc hPc (ci := 1) (q0 := 0) rfl rfl, pcX_pre hPc hKc hDc hS hX.1 hFc h⟩ rfl rfl hl.1 rfl (lv_room (Nat.le_of_ble_eq_true rfl)) d_L_term_7 ⟨Nat.le_of_ble_eq_true rfl, Nat.le_of_ble_eq_true rfl⟩) hS (fun q _ h => hFc q h) hFc (fun q _ h => hFc q h) (fun E ce q9 u t H1 locs ht hvm _ hBu hz1 hk1 hS hce hcv hcl => ?_) (fun r1 u t H1 locs ht hvm h hBu hz1 hk1 hS => ?_)
  · -- thrown
    obtain ⟨h, hP1, hK1, hD1⟩ := hBu
    rw [ht] at hP1
    obtain ⟨hP, hD⟩ := va_join (wr := [(o0, .inl (co, 1, .inr (.inl out)))]) (w1 := (wG a0 a1 a2 a3 a4 a5 c1 c2 c4 c5 made size tooG kept sizes rows taken)) hP hD [1, 2, 3, 4, 5, 6] [0] rfl rfl (by decide) (by decide) hk1 hFc hP1 hD1
    generalize H1 = H at *
    have hP : va_P D vwCl (wO o0 a0 a1 a2 a3 a4 a5 co c1 c2 c4 c5 made size tooG out kept sizes rows taken) H := hP
    have hD : va_D A (wO o0 a0 a1 a2 a3 a4 a5 co c1 c2 c4 c5 made size tooG out kept sizes rows taken) := hD
    by_cases e0 : E = "java/lang/IndexOutOfBoundsException"
    · replace h := h.1 e0
      subst e0
      refine vx_catch (own := R_L) (name := "java/lang/IndexOutOfBoundsException") hown [] ⟨0, 12, 15, 26⟩ [⟨0, 12, 19, 21⟩] (by rw [htab]; rfl) (fun z hz => by cases hz) (by decide) (by decide) (hB _ wd_173) (va_Nw.use rfl (hX.1.1 (.castable "java/lang/IndexOutOfBoundsException" "java/lang/IndexOutOfBoundsException") (by decide +kernel))) hce hcv hcl ?_
      refine W.widen (k := 2) (n := 12) (by omega) (by omega) ?_
      refine lv_astore (lv' := [(5, .ref q9), (0, .ref a0), (1, .int p1), (2, .int p2), (3, .int p3), (4, .ref o0)]) hx hb d_L_term_15 hl (by decide) rfl (fun ls hl => ?_)
      refine lv_iconst (v := 1) hx hb d_L_term_17 (by decide) ?_
      exact W.iret (v := 1) hx hb hr (fun t ht hW => ⟨⟨1, (made, size, tooG, out, kept, sizes, rows, taken), rfl, h, by rw [ht]; exact hP, va_K.moved hW.alike hK, hD⟩, hS.F ht⟩) hS.2.2 d_L_term_18
    · replace h := h.2 e0
      by_cases e1 : E = "java/lang/IllegalArgumentException"
      · replace h := h.1 e1
        subst e1
        refine vx_catch (own := R_L) (name := "java/lang/IllegalArgumentException") hown [⟨0, 12, 15, 26⟩] ⟨0, 12, 19, 21⟩ [] (by rw [htab]; rfl) (fun z hz => by simp only [List.mem_cons, List.not_mem_nil, or_false] at hz; rcases hz with rfl <;> first | exact Or.inr ⟨by decide, "java/lang/IndexOutOfBoundsException", hB _ wd_173, hX.2 ("java/lang/IllegalArgumentException", "java/lang/IndexOutOfBoundsException") (by decide +kernel)⟩ ) (by decide) (by decide) (hB _ wd_151) (va_Nw.use rfl (hX.1.1 (.castable "java/lang/IllegalArgumentException" "java/lang/IllegalArgumentException") (by decide +kernel))) hce hcv hcl ?_
        refine W.widen (k := 2) (n := 12) (by omega) (by omega) ?_
        refine lv_astore (lv' := [(5, .ref q9), (0, .ref a0), (1, .int p1), (2, .int p2), (3, .int p3), (4, .ref o0)]) hx hb d_L_term_19 hl (by decide) rfl (fun ls hl => ?_)
        refine lv_iconst (v := 2) hx hb d_L_term_21 (by decide) ?_
        exact W.iret (v := 2) hx hb hr (fun t ht hW => ⟨⟨2, (made, size, tooG, out, kept, sizes, rows, taken), rfl, h, by rw [ht]; exact hP, va_K.moved hW.alike hK, hD⟩, hS.F ht⟩) hS.2.2 d_L_term_22
      · replace h := h.2 e1
        exact (show False from h).elim
  ·
    obtain ⟨hP1, hK1, hD1⟩ := hBu
    rw [ht] at hP1
    obtain ⟨hP, hD⟩ := va_join (wr := [(o0, .inl (co, 1, .inr (.inl out)))]) (w1 := (wG a0 a1 a2 a3 a4 a5 c1 c2 c4 c5 made size tooG kept sizes rows taken)) hP hD [1, 2, 3, 4, 5, 6] [0] rfl rfl (by decide) (by decide) hk1 hFc hP1 hD1
    generalize H1 = H at *
    have hP : va_P D vwCl (wO o0 a0 a1 a2 a3 a4 a5 co c1 c2 c4 c5 made size tooG out kept sizes rows taken) H := hP
    have hD : va_D A (wO o0 a0 a1 a2 a3 a4 a5 co c1 c2 c4 c5 made size tooG out kept sizes rows taken) := hD
    refine W.widen (k := 2) (n := 12) (by omega) (by omega) ?_
    refine lv_i2l hx hb d_L_term_10 rfl ?_
    obtain ⟨g2, h⟩ := h
    obtain ⟨out_3, eout_3⟩ : ∃ z : (Nat → Int64), z = vp_updL out (0 : Int32).toNatClampNeg (r1.toInt64) := ⟨_, rfl⟩
    replace h := h out_3 eout_3
    refine va_last hx hb hK hP hD hS 0 0 rfl rfl g2 d_L_term_11 (fun H locs hP hD hS => ?_)
    have hP : va_P D vwCl (wO o0 a0 a1 a2 a3 a4 a5 co c1 c2 c4 c5 made size tooG out_3 kept sizes rows taken) H := by rw [eout_3]; exact hP
    have hD : va_D A (wO o0 a0 a1 a2 a3 a4 a5 co c1 c2 c4 c5 made size tooG out_3 kept sizes rows taken) := by rw [eout_3]; exact hD
    refine lv_goto (tgt := 23) hx hb d_L_term_12 (by decide) ?_
    refine lv_iconst (v := 0) hx hb d_L_term_23 (by decide) ?_
    exact W.iret (v := 0) hx hb hr (fun t ht hW => ⟨⟨0, (made, size, tooG, out_3, kept, sizes, rows, taken), rfl, h, by rw [ht]; exact hP, va_K.moved hW.alike hK, hD⟩, hS.F ht⟩) hS.2.2 d_L_term_24
def wp_L_limit (made : Int32) (size : Int32) (tooG : Int32) (out : (Nat → Int64)) (kept : (Nat → Int32)) (sizes : (Nat → Int32)) (rows : (Nat → Int32)) (taken : (Nat → Int32)) (p1 : Int32) (post : Int32 → Int32 → Int32 → Int32 → (Nat → Int64) → (Nat → Int32) → (Nat → Int32) → (Nat → Int32) → (Nat → Int32) → Prop) : Prop :=
  wp_G_limit made kept sizes p1 (fun r1 => vp_in 0 1 ∧ (∀ out_3 : (Nat → Int64), out_3 = vp_updL out (0 : Int32).toNatClampNeg (r1.toInt64) → (post 0 made size tooG out_3 kept sizes rows taken))) (fun E => (E = "java/lang/IndexOutOfBoundsException" → (post 1 made size tooG out kept sizes rows taken)) ∧ (¬ E = "java/lang/IndexOutOfBoundsException" → (False)))
set_option maxHeartbeats 4000000 in
set_option maxRecDepth 100000 in
theorem c_L_limit (l : Launch) (D : va_G) (o0 a0 a1 a2 a3 a4 a5 : Nat) (co c1 c2 c4 c5 : ClassId) (sz : Nat) (made : Int32) (size : Int32) (tooG : Int32) (out : (Nat → Int64)) (kept : (Nat → Int32)) (sizes : (Nat → Int32)) (rows : (Nat → Int32)) (taken : (Nat → Int32)) (p1 : Int32) (post : Int32 → Int32 → Int32 → Int32 → (Nat → Int64) → (Nat → Int32) → (Nat → Int32) → (Nat → Int32) → (Nat → Int32) → Prop) (hst : l.stackTraces = false) : Met l y_L_limit (Cond.codeWith y_L_limit b_L_limit 4 (some .int) [(0, 9, 12, 26)] :: BIG) ({ frames := 8, cells := 1, slots := 6, locals := 132 }) (va_Pc [.ref a0, .int p1, .ref o0] (pcH D vwCl (wO o0 a0 a1 a2 a3 a4 a5 co c1 c2 c4 c5 made size tooG out kept sizes rows taken) [(co, .long), (c1, .int), (c2, .int), (c4, .int), (c5, .int)] sz (wp_L_limit made size tooG out kept sizes rows taken p1 post))) (va_Qi (fun (r : Int32) (u : Int32 × Int32 × Int32 × (Nat → Int64) × (Nat → Int32) × (Nat → Int32) × (Nat → Int32) × (Nat → Int32)) => post r u.1 u.2.1 u.2.2.1 u.2.2.2.1 u.2.2.2.2.1 u.2.2.2.2.2.1 u.2.2.2.2.2.2.1 u.2.2.2.2.2.2.2) (fun u => atG D vwCl [(co, .long), (c1, .int), (c2, .int), (c4, .int), (c5, .int)] (va_A (wO o0 a0 a1 a2 a3 a4 a5 co c1 c2 c4 c5 made size tooG out kept sizes rows taken) sz) (wO o0 a0 a1 a2 a3 a4 a5 co c1 c2 c4 c5 (u.1) (u.2.1) (u.2.2.1) (u.2.2.2.1) (u.2.2.2.2.1) (u.2.2.2.2.2.1) (u.2.2.2.2.2.2.1) (u.2.2.2.2.2.2.2))) (va_A (wO o0 a0 a1 a2 a3 a4 a5 co c1 c2 c4 c5 made size tooG out kept sizes rows taken) sz)) 1 6 (va_A (wO o0 a0 a1 a2 a3 a4 a5 co c1 c2 c4 c5 made size tooG out kept sizes rows taken) sz) := by
  refine va_MetW (cc := b_L_limit) (maxL := 4) (ret := (some .int)) (by decide) rfl ?_
  intro p e s m args below meth c s₁ B hml hv
  obtain ⟨rfl, hsz, hP, hK, hD0, hX, h⟩ := hv
  have hx := B.exec
  have hb := B.bytes
  have hr := B.returns
  have hat := atoms_spec (ws := (Cond.codeWith y_L_limit b_L_limit 4 (some .int) [(0, 9, 12, 26)] :: BIG)) B.pre
  have htab := vx_table (x := y_L_limit) B (hat _ List.mem_cons_self)
  have hB : ∀ w ∈ BIG, w.before _ s = true := fun w h => hat w (List.mem_cons_of_mem _ h)
  have hown : s.vm.findClass R_L = some m.cls := findClass_of_methodNamed B.named
  have hlocks := B.notSynchronized
  subst hsz
  have hD := hD0.self (sz := s.heap.size)
  generalize hAe : va_A (wO o0 a0 a1 a2 a3 a4 a5 co c1 c2 c4 c5 made size tooG out kept sizes rows taken) s.heap.size = A at hD hX ⊢
  have hA : ∀ q : Nat, s.heap.size ≤ q → A q := fun q h => by rw [← hAe]; exact Or.inr h
  have hl := lv_entry ([.ref a0, .int p1, .ref o0]) (n := 4) (Nat.le_of_ble_eq_true rfl)
  rw [lg_entry_eq]
  generalize (lg_sl ([.ref a0, .int p1, .ref o0]) ++ List.replicate (4 - (lg_sl ([.ref a0, .int p1, .ref o0])).length) Slot.unset).toArray = ls at hl ⊢
  have hl : lv_has ls 4 [(0, .ref a0), (1, .int p1), (2, .ref o0)] := hl
  refine W.cap (fun G Gi Ge => ?_)
  suffices hL : ∀ (H : Heap) (locs : List Loc), va_P D vwCl (wO o0 a0 a1 a2 a3 a4 a5 co c1 c2 c4 c5 made size tooG out kept sizes rows taken) H → va_S A s.heap H locs → G H locs (F0 m 0 ls []) from hL _ _ hP va_S.rf
  clear hP
  intro H locs hP hS
  refine Gi _ _ _ ?_
  unfold wp_L_limit at h
  refine lv_aload_n hx hb d_L_limit_0 rfl (lv_at hl 2 rfl) ?_
  refine lv_iconst (v := 0) hx hb d_L_limit_1 (by decide) ?_
  refine lv_aload_n hx hb d_L_limit_2 rfl (lv_at hl 0 rfl) ?_
  refine lv_iload_n hx hb d_L_limit_3 rfl (lv_at hl 1 rfl) ?_
  have hPc := hP.sub (ws' := (wG a0 a1 a2 a3 a4 a5 c1 c2 c4 c5 made size tooG kept sizes rows taken)) [1, 2, 3, 4, 5, 6] rfl
  have hDc := hD.sub (ws' := (wG a0 a1 a2 a3 a4 a5 c1 c2 c4 c5 made size tooG kept sizes rows taken)) [1, 2, 3, 4, 5, 6] (by decide) rfl
  have hKc := hK.sub (tys' := [(c1, .int), (c2, .int), (c4, .int), (c5, .int)]) [1, 2, 3, 4] rfl
  have hFc := va_free (wc := (wG a0 a1 a2 a3 a4 a5 c1 c2 c4 c5 made size tooG kept sizes rows taken)) hD hS hA [1, 2, 3, 4, 5, 6] rfl
  refine vx_calli (vx_runV (As := [.int p1]) (rest := [.int 0, .ref o0]) ⟨hx, hb, hml, hown, hB⟩ (c_G_limit l D a0 a1 a2 a3 a4 a5 c1 c2 c4 c5 H.size made size tooG kept sizes rows taken p1 _ _ hst) (cwV 1 hB (goodV wd_269 wd_270 wd_271 wd_1 wd_272) rfl rfl rfl (by decide +kernel) ⟨Nat.le_of_ble_eq_true rfl, Nat.le_of_ble_eq_true rfl⟩) ⟨pcX_blind, va_recv hKc hPc (ci := 1) (q0 := 0) rfl rfl, pcX_pre hPc hKc hDc hS hX.1 hFc h⟩ rfl rfl hl.1 rfl (lv_room (Nat.le_of_ble_eq_true rfl)) d_L_limit_4 ⟨Nat.le_of_ble_eq_true rfl, Nat.le_of_ble_eq_true rfl⟩) hS (fun q _ h => hFc q h) hFc (fun q _ h => hFc q h) (fun E ce q9 u t H1 locs ht hvm _ hBu hz1 hk1 hS hce hcv hcl => ?_) (fun r1 u t H1 locs ht hvm h hBu hz1 hk1 hS => ?_)
  · -- thrown
    obtain ⟨h, hP1, hK1, hD1⟩ := hBu
    rw [ht] at hP1
    obtain ⟨hP, hD⟩ := va_join (wr := [(o0, .inl (co, 1, .inr (.inl out)))]) (w1 := (wG a0 a1 a2 a3 a4 a5 c1 c2 c4 c5 made size tooG kept sizes rows taken)) hP hD [1, 2, 3, 4, 5, 6] [0] rfl rfl (by decide) (by decide) hk1 hFc hP1 hD1
    generalize H1 = H at *
    have hP : va_P D vwCl (wO o0 a0 a1 a2 a3 a4 a5 co c1 c2 c4 c5 made size tooG out kept sizes rows taken) H := hP
    have hD : va_D A (wO o0 a0 a1 a2 a3 a4 a5 co c1 c2 c4 c5 made size tooG out kept sizes rows taken) := hD
    by_cases e0 : E = "java/lang/IndexOutOfBoundsException"
    · replace h := h.1 e0
      subst e0
      refine vx_catch (own := R_L) (name := "java/lang/IndexOutOfBoundsException") hown [] ⟨0, 9, 12, 26⟩ [] (by rw [htab]; rfl) (fun z hz => by cases hz) (by decide) (by decide) (hB _ wd_173) (va_Nw.use rfl (hX.1.1 (.castable "java/lang/IndexOutOfBoundsException" "java/lang/IndexOutOfBoundsException") (by decide +kernel))) hce hcv hcl ?_
      refine W.widen (k := 1) (n := 6) (by omega) (by omega) ?_
      refine lv_astore_n (lv' := [(3, .ref q9), (0, .ref a0), (1, .int p1), (2, .ref o0)]) hx hb d_L_limit_12 rfl hl (by decide) rfl (fun ls hl => ?_)
      refine lv_iconst (v := 1) hx hb d_L_limit_13 (by decide) ?_
      exact W.iret (v := 1) hx hb hr (fun t ht hW => ⟨⟨1, (made, size, tooG, out, kept, sizes, rows, taken), rfl, h, by rw [ht]; exact hP, va_K.moved hW.alike hK, hD⟩, hS.F ht⟩) hS.2.2 d_L_limit_14
    · replace h := h.2 e0
      exact (show False from h).elim
  ·
    obtain ⟨hP1, hK1, hD1⟩ := hBu
    rw [ht] at hP1
    obtain ⟨hP, hD⟩ := va_join (wr := [(o0, .inl (co, 1, .inr (.inl out)))]) (w1 := (wG a0 a1 a2 a3 a4 a5 c1 c2 c4 c5 made size tooG kept sizes rows taken)) hP hD [1, 2, 3, 4, 5, 6] [0] rfl rfl (by decide) (by decide) hk1 hFc hP1 hD1
    generalize H1 = H at *
    have hP : va_P D vwCl (wO o0 a0 a1 a2 a3 a4 a5 co c1 c2 c4 c5 made size tooG out kept sizes rows taken) H := hP
    have hD : va_D A (wO o0 a0 a1 a2 a3 a4 a5 co c1 c2 c4 c5 made size tooG out kept sizes rows taken) := hD
    refine W.widen (k := 1) (n := 6) (by omega) (by omega) ?_
    refine lv_i2l hx hb d_L_limit_7 rfl ?_
    obtain ⟨g2, h⟩ := h
    obtain ⟨out_3, eout_3⟩ : ∃ z : (Nat → Int64), z = vp_updL out (0 : Int32).toNatClampNeg (r1.toInt64) := ⟨_, rfl⟩
    replace h := h out_3 eout_3
    refine va_last hx hb hK hP hD hS 0 0 rfl rfl g2 d_L_limit_8 (fun H locs hP hD hS => ?_)
    have hP : va_P D vwCl (wO o0 a0 a1 a2 a3 a4 a5 co c1 c2 c4 c5 made size tooG out_3 kept sizes rows taken) H := by rw [eout_3]; exact hP
    have hD : va_D A (wO o0 a0 a1 a2 a3 a4 a5 co c1 c2 c4 c5 made size tooG out_3 kept sizes rows taken) := by rw [eout_3]; exact hD
    refine lv_goto (tgt := 15) hx hb d_L_limit_9 (by decide) ?_
    refine lv_iconst (v := 0) hx hb d_L_limit_15 (by decide) ?_
    exact W.iret (v := 0) hx hb hr (fun t ht hW => ⟨⟨0, (made, size, tooG, out_3, kept, sizes, rows, taken), rfl, h, by rw [ht]; exact hP, va_K.moved hW.alike hK, hD⟩, hS.F ht⟩) hS.2.2 d_L_limit_16
def wp_L_value (made : Int32) (size : Int32) (tooG : Int32) (out : (Nat → Int64)) (kept : (Nat → Int32)) (sizes : (Nat → Int32)) (rows : (Nat → Int32)) (taken : (Nat → Int32)) (p1 : Int32) (p2 : Int32) (post : Int32 → Int32 → Int32 → Int32 → (Nat → Int64) → (Nat → Int32) → (Nat → Int32) → (Nat → Int32) → (Nat → Int32) → Prop) : Prop :=
  wp_G_value made kept sizes p1 p2 (fun r1 => vp_in 0 1 ∧ (∀ out_3 : (Nat → Int64), out_3 = vp_updL out (0 : Int32).toNatClampNeg (r1.toInt64) → (post 0 made size tooG out_3 kept sizes rows taken))) (fun E => (E = "java/lang/IndexOutOfBoundsException" → (post 1 made size tooG out kept sizes rows taken)) ∧ (¬ E = "java/lang/IndexOutOfBoundsException" → ((E = "java/lang/IllegalStateException" → (post 2 made size tooG out kept sizes rows taken)) ∧ (¬ E = "java/lang/IllegalStateException" → ((E = "java/lang/IllegalArgumentException" → (post 3 made size tooG out kept sizes rows taken)) ∧ (¬ E = "java/lang/IllegalArgumentException" → (False)))))))
set_option maxHeartbeats 4000000 in
set_option maxRecDepth 100000 in
theorem c_L_value (l : Launch) (D : va_G) (o0 a0 a1 a2 a3 a4 a5 : Nat) (co c1 c2 c4 c5 : ClassId) (sz : Nat) (made : Int32) (size : Int32) (tooG : Int32) (out : (Nat → Int64)) (kept : (Nat → Int32)) (sizes : (Nat → Int32)) (rows : (Nat → Int32)) (taken : (Nat → Int32)) (p1 : Int32) (p2 : Int32) (post : Int32 → Int32 → Int32 → Int32 → (Nat → Int64) → (Nat → Int32) → (Nat → Int32) → (Nat → Int32) → (Nat → Int32) → Prop) (hst : l.stackTraces = false) : Met l y_L_value (Cond.codeWith y_L_value b_L_value 5 (some .int) [(0, 10, 13, 26), (0, 10, 17, 15), (0, 10, 21, 21)] :: BIG) ({ frames := 8, cells := 2, slots := 12, locals := 134 }) (va_Pc [.ref a0, .int p1, .int p2, .ref o0] (pcH D vwCl (wO o0 a0 a1 a2 a3 a4 a5 co c1 c2 c4 c5 made size tooG out kept sizes rows taken) [(co, .long), (c1, .int), (c2, .int), (c4, .int), (c5, .int)] sz (wp_L_value made size tooG out kept sizes rows taken p1 p2 post))) (va_Qi (fun (r : Int32) (u : Int32 × Int32 × Int32 × (Nat → Int64) × (Nat → Int32) × (Nat → Int32) × (Nat → Int32) × (Nat → Int32)) => post r u.1 u.2.1 u.2.2.1 u.2.2.2.1 u.2.2.2.2.1 u.2.2.2.2.2.1 u.2.2.2.2.2.2.1 u.2.2.2.2.2.2.2) (fun u => atG D vwCl [(co, .long), (c1, .int), (c2, .int), (c4, .int), (c5, .int)] (va_A (wO o0 a0 a1 a2 a3 a4 a5 co c1 c2 c4 c5 made size tooG out kept sizes rows taken) sz) (wO o0 a0 a1 a2 a3 a4 a5 co c1 c2 c4 c5 (u.1) (u.2.1) (u.2.2.1) (u.2.2.2.1) (u.2.2.2.2.1) (u.2.2.2.2.2.1) (u.2.2.2.2.2.2.1) (u.2.2.2.2.2.2.2))) (va_A (wO o0 a0 a1 a2 a3 a4 a5 co c1 c2 c4 c5 made size tooG out kept sizes rows taken) sz)) 2 12 (va_A (wO o0 a0 a1 a2 a3 a4 a5 co c1 c2 c4 c5 made size tooG out kept sizes rows taken) sz) := by
  refine va_MetW (cc := b_L_value) (maxL := 5) (ret := (some .int)) (by decide) rfl ?_
  intro p e s m args below meth c s₁ B hml hv
  obtain ⟨rfl, hsz, hP, hK, hD0, hX, h⟩ := hv
  have hx := B.exec
  have hb := B.bytes
  have hr := B.returns
  have hat := atoms_spec (ws := (Cond.codeWith y_L_value b_L_value 5 (some .int) [(0, 10, 13, 26), (0, 10, 17, 15), (0, 10, 21, 21)] :: BIG)) B.pre
  have htab := vx_table (x := y_L_value) B (hat _ List.mem_cons_self)
  have hB : ∀ w ∈ BIG, w.before _ s = true := fun w h => hat w (List.mem_cons_of_mem _ h)
  have hown : s.vm.findClass R_L = some m.cls := findClass_of_methodNamed B.named
  have hlocks := B.notSynchronized
  subst hsz
  have hD := hD0.self (sz := s.heap.size)
  generalize hAe : va_A (wO o0 a0 a1 a2 a3 a4 a5 co c1 c2 c4 c5 made size tooG out kept sizes rows taken) s.heap.size = A at hD hX ⊢
  have hA : ∀ q : Nat, s.heap.size ≤ q → A q := fun q h => by rw [← hAe]; exact Or.inr h
  have hl := lv_entry ([.ref a0, .int p1, .int p2, .ref o0]) (n := 5) (Nat.le_of_ble_eq_true rfl)
  rw [lg_entry_eq]
  generalize (lg_sl ([.ref a0, .int p1, .int p2, .ref o0]) ++ List.replicate (5 - (lg_sl ([.ref a0, .int p1, .int p2, .ref o0])).length) Slot.unset).toArray = ls at hl ⊢
  have hl : lv_has ls 5 [(0, .ref a0), (1, .int p1), (2, .int p2), (3, .ref o0)] := hl
  refine W.cap (fun G Gi Ge => ?_)
  suffices hL : ∀ (H : Heap) (locs : List Loc), va_P D vwCl (wO o0 a0 a1 a2 a3 a4 a5 co c1 c2 c4 c5 made size tooG out kept sizes rows taken) H → va_S A s.heap H locs → G H locs (F0 m 0 ls []) from hL _ _ hP va_S.rf
  clear hP
  intro H locs hP hS
  refine Gi _ _ _ ?_
  unfold wp_L_value at h
  refine lv_aload_n hx hb d_L_value_0 rfl (lv_at hl 3 rfl) ?_
  refine lv_iconst (v := 0) hx hb d_L_value_1 (by decide) ?_
  refine lv_aload_n hx hb d_L_value_2 rfl (lv_at hl 0 rfl) ?_
  refine lv_iload_n hx hb d_L_value_3 rfl (lv_at hl 1 rfl) ?_
  refine lv_iload_n hx hb d_L_value_4 rfl (lv_at hl 2 rfl) ?_
  have hPc := hP.sub (ws' := (wG a0 a1 a2 a3 a4 a5 c1 c2 c4 c5 made size tooG kept sizes rows taken)) [1, 2, 3, 4, 5, 6] rfl
  have hDc := hD.sub (ws' := (wG a0 a1 a2 a3 a4 a5 c1 c2 c4 c5 made size tooG kept sizes rows taken)) [1, 2, 3, 4, 5, 6] (by decide) rfl
  have hKc := hK.sub (tys' := [(c1, .int), (c2, .int), (c4, .int), (c5, .int)]) [1, 2, 3, 4] rfl
  have hFc := va_free (wc := (wG a0 a1 a2 a3 a4 a5 c1 c2 c4 c5 made size tooG kept sizes rows taken)) hD hS hA [1, 2, 3, 4, 5, 6] rfl
  refine vx_calli (vx_runV (As := [.int p1, .int p2]) (rest := [.int 0, .ref o0]) ⟨hx, hb, hml, hown, hB⟩ (c_G_value l D a0 a1 a2 a3 a4 a5 c1 c2 c4 c5 H.size made size tooG kept sizes rows taken p1 p2 _ _ hst) (cwV 2 hB (goodV wd_285 wd_286 wd_287 wd_1 wd_288) rfl rfl rfl (by decide +kernel) ⟨Nat.le_of_ble_eq_true rfl, Nat.le_of_ble_eq_true rfl⟩) ⟨pcX_blind, va_recv hKc hPc (ci := 1) (q0 := 0) rfl rfl, pcX_pre hPc hKc hDc hS hX.1 hFc h⟩ rfl rfl hl.1 rfl (lv_room (Nat.le_of_ble_eq_true rfl)) d_L_value_5 ⟨Nat.le_of_ble_eq_true rfl, Nat.le_of_ble_eq_true rfl⟩) hS (fun q _ h => hFc q h) hFc (fun q _ h => hFc q h) (fun E ce q9 u t H1 locs ht hvm _ hBu hz1 hk1 hS hce hcv hcl => ?_) (fun r1 u t H1 locs ht hvm h hBu hz1 hk1 hS => ?_)
  · -- thrown
    obtain ⟨h, hP1, hK1, hD1⟩ := hBu
    rw [ht] at hP1
    obtain ⟨hP, hD⟩ := va_join (wr := [(o0, .inl (co, 1, .inr (.inl out)))]) (w1 := (wG a0 a1 a2 a3 a4 a5 c1 c2 c4 c5 made size tooG kept sizes rows taken)) hP hD [1, 2, 3, 4, 5, 6] [0] rfl rfl (by decide) (by decide) hk1 hFc hP1 hD1
    generalize H1 = H at *
    have hP : va_P D vwCl (wO o0 a0 a1 a2 a3 a4 a5 co c1 c2 c4 c5 made size tooG out kept sizes rows taken) H := hP
    have hD : va_D A (wO o0 a0 a1 a2 a3 a4 a5 co c1 c2 c4 c5 made size tooG out kept sizes rows taken) := hD
    by_cases e0 : E = "java/lang/IndexOutOfBoundsException"
    · replace h := h.1 e0
      subst e0
      refine vx_catch (own := R_L) (name := "java/lang/IndexOutOfBoundsException") hown [] ⟨0, 10, 13, 26⟩ [⟨0, 10, 17, 15⟩, ⟨0, 10, 21, 21⟩] (by rw [htab]; rfl) (fun z hz => by cases hz) (by decide) (by decide) (hB _ wd_173) (va_Nw.use rfl (hX.1.1 (.castable "java/lang/IndexOutOfBoundsException" "java/lang/IndexOutOfBoundsException") (by decide +kernel))) hce hcv hcl ?_
      refine W.widen (k := 2) (n := 12) (by omega) (by omega) ?_
      refine lv_astore (lv' := [(4, .ref q9), (0, .ref a0), (1, .int p1), (2, .int p2), (3, .ref o0)]) hx hb d_L_value_13 hl (by decide) rfl (fun ls hl => ?_)
      refine lv_iconst (v := 1) hx hb d_L_value_15 (by decide) ?_
      exact W.iret (v := 1) hx hb hr (fun t ht hW => ⟨⟨1, (made, size, tooG, out, kept, sizes, rows, taken), rfl, h, by rw [ht]; exact hP, va_K.moved hW.alike hK, hD⟩, hS.F ht⟩) hS.2.2 d_L_value_16
    · replace h := h.2 e0
      by_cases e1 : E = "java/lang/IllegalStateException"
      · replace h := h.1 e1
        subst e1
        refine vx_catch (own := R_L) (name := "java/lang/IllegalStateException") hown [⟨0, 10, 13, 26⟩] ⟨0, 10, 17, 15⟩ [⟨0, 10, 21, 21⟩] (by rw [htab]; rfl) (fun z hz => by simp only [List.mem_cons, List.not_mem_nil, or_false] at hz; rcases hz with rfl <;> first | exact Or.inr ⟨by decide, "java/lang/IndexOutOfBoundsException", hB _ wd_173, hX.2 ("java/lang/IllegalStateException", "java/lang/IndexOutOfBoundsException") (by decide +kernel)⟩ ) (by decide) (by decide) (hB _ wd_47) (va_Nw.use rfl (hX.1.1 (.castable "java/lang/IllegalStateException" "java/lang/IllegalStateException") (by decide +kernel))) hce hcv hcl ?_
        refine W.widen (k := 2) (n := 12) (by omega) (by omega) ?_
        refine lv_astore (lv' := [(4, .ref q9), (0, .ref a0), (1, .int p1), (2, .int p2), (3, .ref o0)]) hx hb d_L_value_17 hl (by decide) rfl (fun ls hl => ?_)
        refine lv_iconst (v := 2) hx hb d_L_value_19 (by decide) ?_
        exact W.iret (v := 2) hx hb hr (fun t ht hW => ⟨⟨2, (made, size, tooG, out, kept, sizes, rows, taken), rfl, h, by rw [ht]; exact hP, va_K.moved hW.alike hK, hD⟩, hS.F ht⟩) hS.2.2 d_L_value_20
      · replace h := h.2 e1
        by_cases e2 : E = "java/lang/IllegalArgumentException"
        · replace h := h.1 e2
          subst e2
          refine vx_catch (own := R_L) (name := "java/lang/IllegalArgumentException") hown [⟨0, 10, 13, 26⟩, ⟨0, 10, 17, 15⟩] ⟨0, 10, 21, 21⟩ [] (by rw [htab]; rfl) (fun z hz => by simp only [List.mem_cons, List.not_mem_nil, or_false] at hz; rcases hz with rfl | rfl <;> first | exact Or.inr ⟨by decide, "java/lang/IndexOutOfBoundsException", hB _ wd_173, hX.2 ("java/lang/IllegalArgumentException", "java/lang/IndexOutOfBoundsException") (by decide +kernel)⟩ | exact Or.inr ⟨by decide, "java/lang/IllegalStateException", hB _ wd_47, hX.2 ("java/lang/IllegalArgumentException", "java/lang/IllegalStateException") (by decide +kernel)⟩ ) (by decide) (by decide) (hB _ wd_151) (va_Nw.use rfl (hX.1.1 (.castable "java/lang/IllegalArgumentException" "java/lang/IllegalArgumentException") (by decide +kernel))) hce hcv hcl ?_
          refine W.widen (k := 2) (n := 12) (by omega) (by omega) ?_
          refine lv_astore (lv' := [(4, .ref q9), (0, .ref a0), (1, .int p1), (2, .int p2), (3, .ref o0)]) hx hb d_L_value_21 hl (by decide) rfl (fun ls hl => ?_)
          refine lv_iconst (v := 3) hx hb d_L_value_23 (by decide) ?_
          exact W.iret (v := 3) hx hb hr (fun t ht hW => ⟨⟨3, (made, size, tooG, out, kept, sizes, rows, taken), rfl, h, by rw [ht]; exact hP, va_K.moved hW.alike hK, hD⟩, hS.F ht⟩) hS.2.2 d_L_value_24
        · replace h := h.2 e2
          exact (show False from h).elim
  ·
    obtain ⟨hP1, hK1, hD1⟩ := hBu
    rw [ht] at hP1
    obtain ⟨hP, hD⟩ := va_join (wr := [(o0, .inl (co, 1, .inr (.inl out)))]) (w1 := (wG a0 a1 a2 a3 a4 a5 c1 c2 c4 c5 made size tooG kept sizes rows taken)) hP hD [1, 2, 3, 4, 5, 6] [0] rfl rfl (by decide) (by decide) hk1 hFc hP1 hD1
    generalize H1 = H at *
    have hP : va_P D vwCl (wO o0 a0 a1 a2 a3 a4 a5 co c1 c2 c4 c5 made size tooG out kept sizes rows taken) H := hP
    have hD : va_D A (wO o0 a0 a1 a2 a3 a4 a5 co c1 c2 c4 c5 made size tooG out kept sizes rows taken) := hD
    refine W.widen (k := 2) (n := 12) (by omega) (by omega) ?_
    refine lv_i2l hx hb d_L_value_8 rfl ?_
    obtain ⟨g2, h⟩ := h
    obtain ⟨out_3, eout_3⟩ : ∃ z : (Nat → Int64), z = vp_updL out (0 : Int32).toNatClampNeg (r1.toInt64) := ⟨_, rfl⟩
    replace h := h out_3 eout_3
    refine va_last hx hb hK hP hD hS 0 0 rfl rfl g2 d_L_value_9 (fun H locs hP hD hS => ?_)
    have hP : va_P D vwCl (wO o0 a0 a1 a2 a3 a4 a5 co c1 c2 c4 c5 made size tooG out_3 kept sizes rows taken) H := by rw [eout_3]; exact hP
    have hD : va_D A (wO o0 a0 a1 a2 a3 a4 a5 co c1 c2 c4 c5 made size tooG out_3 kept sizes rows taken) := by rw [eout_3]; exact hD
    refine lv_goto (tgt := 25) hx hb d_L_value_10 (by decide) ?_
    refine lv_iconst (v := 0) hx hb d_L_value_25 (by decide) ?_
    exact W.iret (v := 0) hx hb hr (fun t ht hW => ⟨⟨0, (made, size, tooG, out_3, kept, sizes, rows, taken), rfl, h, by rw [ht]; exact hP, va_K.moved hW.alike hK, hD⟩, hS.F ht⟩) hS.2.2 d_L_value_26
def wp_L_compare (made : Int32) (size : Int32) (tooG : Int32) (out : (Nat → Int64)) (kept : (Nat → Int32)) (sizes : (Nat → Int32)) (rows : (Nat → Int32)) (taken : (Nat → Int32)) (p1 : Int32) (p2 : Int32) (post : Int32 → Int32 → Int32 → Int32 → (Nat → Int64) → (Nat → Int32) → (Nat → Int32) → (Nat → Int32) → (Nat → Int32) → Prop) : Prop :=
  wp_G_compare made kept sizes p1 p2 (fun r1 => vp_in 0 1 ∧ (∀ out_3 : (Nat → Int64), out_3 = vp_updL out (0 : Int32).toNatClampNeg (r1.toInt64) → (post 0 made size tooG out_3 kept sizes rows taken))) (fun E => (E = "java/lang/IndexOutOfBoundsException" → (post 1 made size tooG out kept sizes rows taken)) ∧ (¬ E = "java/lang/IndexOutOfBoundsException" → (False)))
set_option maxHeartbeats 4000000 in
set_option maxRecDepth 100000 in
theorem c_L_compare (l : Launch) (D : va_G) (o0 a0 a1 a2 a3 a4 a5 : Nat) (co c1 c2 c4 c5 : ClassId) (sz : Nat) (made : Int32) (size : Int32) (tooG : Int32) (out : (Nat → Int64)) (kept : (Nat → Int32)) (sizes : (Nat → Int32)) (rows : (Nat → Int32)) (taken : (Nat → Int32)) (p1 : Int32) (p2 : Int32) (post : Int32 → Int32 → Int32 → Int32 → (Nat → Int64) → (Nat → Int32) → (Nat → Int32) → (Nat → Int32) → (Nat → Int32) → Prop) (hst : l.stackTraces = false) : Met l y_L_compare (Cond.codeWith y_L_compare b_L_compare 5 (some .int) [(0, 10, 13, 26)] :: BIG) ({ frames := 8, cells := 2, slots := 12, locals := 133 }) (va_Pc [.ref a0, .int p1, .int p2, .ref o0] (pcH D vwCl (wO o0 a0 a1 a2 a3 a4 a5 co c1 c2 c4 c5 made size tooG out kept sizes rows taken) [(co, .long), (c1, .int), (c2, .int), (c4, .int), (c5, .int)] sz (wp_L_compare made size tooG out kept sizes rows taken p1 p2 post))) (va_Qi (fun (r : Int32) (u : Int32 × Int32 × Int32 × (Nat → Int64) × (Nat → Int32) × (Nat → Int32) × (Nat → Int32) × (Nat → Int32)) => post r u.1 u.2.1 u.2.2.1 u.2.2.2.1 u.2.2.2.2.1 u.2.2.2.2.2.1 u.2.2.2.2.2.2.1 u.2.2.2.2.2.2.2) (fun u => atG D vwCl [(co, .long), (c1, .int), (c2, .int), (c4, .int), (c5, .int)] (va_A (wO o0 a0 a1 a2 a3 a4 a5 co c1 c2 c4 c5 made size tooG out kept sizes rows taken) sz) (wO o0 a0 a1 a2 a3 a4 a5 co c1 c2 c4 c5 (u.1) (u.2.1) (u.2.2.1) (u.2.2.2.1) (u.2.2.2.2.1) (u.2.2.2.2.2.1) (u.2.2.2.2.2.2.1) (u.2.2.2.2.2.2.2))) (va_A (wO o0 a0 a1 a2 a3 a4 a5 co c1 c2 c4 c5 made size tooG out kept sizes rows taken) sz)) 2 12 (va_A (wO o0 a0 a1 a2 a3 a4 a5 co c1 c2 c4 c5 made size tooG out kept sizes rows taken) sz) := by
  refine va_MetW (cc := b_L_compare) (maxL := 5) (ret := (some .int)) (by decide) rfl ?_
  intro p e s m args below meth c s₁ B hml hv
  obtain ⟨rfl, hsz, hP, hK, hD0, hX, h⟩ := hv
  have hx := B.exec
  have hb := B.bytes
  have hr := B.returns
  have hat := atoms_spec (ws := (Cond.codeWith y_L_compare b_L_compare 5 (some .int) [(0, 10, 13, 26)] :: BIG)) B.pre
  have htab := vx_table (x := y_L_compare) B (hat _ List.mem_cons_self)
  have hB : ∀ w ∈ BIG, w.before _ s = true := fun w h => hat w (List.mem_cons_of_mem _ h)
  have hown : s.vm.findClass R_L = some m.cls := findClass_of_methodNamed B.named
  have hlocks := B.notSynchronized
  subst hsz
  have hD := hD0.self (sz := s.heap.size)
  generalize hAe : va_A (wO o0 a0 a1 a2 a3 a4 a5 co c1 c2 c4 c5 made size tooG out kept sizes rows taken) s.heap.size = A at hD hX ⊢
  have hA : ∀ q : Nat, s.heap.size ≤ q → A q := fun q h => by rw [← hAe]; exact Or.inr h
  have hl := lv_entry ([.ref a0, .int p1, .int p2, .ref o0]) (n := 5) (Nat.le_of_ble_eq_true rfl)
  rw [lg_entry_eq]
  generalize (lg_sl ([.ref a0, .int p1, .int p2, .ref o0]) ++ List.replicate (5 - (lg_sl ([.ref a0, .int p1, .int p2, .ref o0])).length) Slot.unset).toArray = ls at hl ⊢
  have hl : lv_has ls 5 [(0, .ref a0), (1, .int p1), (2, .int p2), (3, .ref o0)] := hl
  refine W.cap (fun G Gi Ge => ?_)
  suffices hL : ∀ (H : Heap) (locs : List Loc), va_P D vwCl (wO o0 a0 a1 a2 a3 a4 a5 co c1 c2 c4 c5 made size tooG out kept sizes rows taken) H → va_S A s.heap H locs → G H locs (F0 m 0 ls []) from hL _ _ hP va_S.rf
  clear hP
  intro H locs hP hS
  refine Gi _ _ _ ?_
  unfold wp_L_compare at h
  refine lv_aload_n hx hb d_L_compare_0 rfl (lv_at hl 3 rfl) ?_
  refine lv_iconst (v := 0) hx hb d_L_compare_1 (by decide) ?_
  refine lv_aload_n hx hb d_L_compare_2 rfl (lv_at hl 0 rfl) ?_
  refine lv_iload_n hx hb d_L_compare_3 rfl (lv_at hl 1 rfl) ?_
  refine lv_iload_n hx hb d_L_compare_4 rfl (lv_at hl 2 rfl) ?_
  have hPc := hP.sub (ws' := (wG a0 a1 a2 a3 a4 a5 c1 c2 c4 c5 made size tooG kept sizes rows taken)) [1, 2, 3, 4, 5, 6] rfl
  have hDc := hD.sub (ws' := (wG a0 a1 a2 a3 a4 a5 c1 c2 c4 c5 made size tooG kept sizes rows taken)) [1, 2, 3, 4, 5, 6] (by decide) rfl
  have hKc := hK.sub (tys' := [(c1, .int), (c2, .int), (c4, .int), (c5, .int)]) [1, 2, 3, 4] rfl
  have hFc := va_free (wc := (wG a0 a1 a2 a3 a4 a5 c1 c2 c4 c5 made size tooG kept sizes rows taken)) hD hS hA [1, 2, 3, 4, 5, 6] rfl
  refine vx_calli (vx_runV (As := [.int p1, .int p2]) (rest := [.int 0, .ref o0]) ⟨hx, hb, hml, hown, hB⟩ (c_G_compare l D a0 a1 a2 a3 a4 a5 c1 c2 c4 c5 H.size made size tooG kept sizes rows taken p1 p2 _ _ hst) (cwV 2 hB (goodV wd_295 wd_296 wd_297 wd_1 wd_298) rfl rfl rfl (by decide +kernel) ⟨Nat.le_of_ble_eq_true rfl, Nat.le_of_ble_eq_true rfl⟩) ⟨pcX_blind, va_recv hKc hPc (ci := 1) (q0 := 0) rfl rfl, pcX_pre hPc hKc hDc hS hX.1 hFc h⟩ rfl rfl hl.1 rfl (lv_room (Nat.le_of_ble_eq_true rfl)) d_L_compare_5 ⟨Nat.le_of_ble_eq_true rfl, Nat.le_of_ble_eq_true rfl⟩) hS (fun q _ h => hFc q h) hFc (fun q _ h => hFc q h) (fun E ce q9 u t H1 locs ht hvm _ hBu hz1 hk1 hS hce hcv hcl => ?_) (fun r1 u t H1 locs ht hvm h hBu hz1 hk1 hS => ?_)
  · -- thrown
    obtain ⟨h, hP1, hK1, hD1⟩ := hBu
    rw [ht] at hP1
    obtain ⟨hP, hD⟩ := va_join (wr := [(o0, .inl (co, 1, .inr (.inl out)))]) (w1 := (wG a0 a1 a2 a3 a4 a5 c1 c2 c4 c5 made size tooG kept sizes rows taken)) hP hD [1, 2, 3, 4, 5, 6] [0] rfl rfl (by decide) (by decide) hk1 hFc hP1 hD1
    generalize H1 = H at *
    have hP : va_P D vwCl (wO o0 a0 a1 a2 a3 a4 a5 co c1 c2 c4 c5 made size tooG out kept sizes rows taken) H := hP
    have hD : va_D A (wO o0 a0 a1 a2 a3 a4 a5 co c1 c2 c4 c5 made size tooG out kept sizes rows taken) := hD
    by_cases e0 : E = "java/lang/IndexOutOfBoundsException"
    · replace h := h.1 e0
      subst e0
      refine vx_catch (own := R_L) (name := "java/lang/IndexOutOfBoundsException") hown [] ⟨0, 10, 13, 26⟩ [] (by rw [htab]; rfl) (fun z hz => by cases hz) (by decide) (by decide) (hB _ wd_173) (va_Nw.use rfl (hX.1.1 (.castable "java/lang/IndexOutOfBoundsException" "java/lang/IndexOutOfBoundsException") (by decide +kernel))) hce hcv hcl ?_
      refine W.widen (k := 2) (n := 12) (by omega) (by omega) ?_
      refine lv_astore (lv' := [(4, .ref q9), (0, .ref a0), (1, .int p1), (2, .int p2), (3, .ref o0)]) hx hb d_L_compare_13 hl (by decide) rfl (fun ls hl => ?_)
      refine lv_iconst (v := 1) hx hb d_L_compare_15 (by decide) ?_
      exact W.iret (v := 1) hx hb hr (fun t ht hW => ⟨⟨1, (made, size, tooG, out, kept, sizes, rows, taken), rfl, h, by rw [ht]; exact hP, va_K.moved hW.alike hK, hD⟩, hS.F ht⟩) hS.2.2 d_L_compare_16
    · replace h := h.2 e0
      exact (show False from h).elim
  ·
    obtain ⟨hP1, hK1, hD1⟩ := hBu
    rw [ht] at hP1
    obtain ⟨hP, hD⟩ := va_join (wr := [(o0, .inl (co, 1, .inr (.inl out)))]) (w1 := (wG a0 a1 a2 a3 a4 a5 c1 c2 c4 c5 made size tooG kept sizes rows taken)) hP hD [1, 2, 3, 4, 5, 6] [0] rfl rfl (by decide) (by decide) hk1 hFc hP1 hD1
    generalize H1 = H at *
    have hP : va_P D vwCl (wO o0 a0 a1 a2 a3 a4 a5 co c1 c2 c4 c5 made size tooG out kept sizes rows taken) H := hP
    have hD : va_D A (wO o0 a0 a1 a2 a3 a4 a5 co c1 c2 c4 c5 made size tooG out kept sizes rows taken) := hD
    refine W.widen (k := 2) (n := 12) (by omega) (by omega) ?_
    refine lv_i2l hx hb d_L_compare_8 rfl ?_
    obtain ⟨g2, h⟩ := h
    obtain ⟨out_3, eout_3⟩ : ∃ z : (Nat → Int64), z = vp_updL out (0 : Int32).toNatClampNeg (r1.toInt64) := ⟨_, rfl⟩
    replace h := h out_3 eout_3
    refine va_last hx hb hK hP hD hS 0 0 rfl rfl g2 d_L_compare_9 (fun H locs hP hD hS => ?_)
    have hP : va_P D vwCl (wO o0 a0 a1 a2 a3 a4 a5 co c1 c2 c4 c5 made size tooG out_3 kept sizes rows taken) H := by rw [eout_3]; exact hP
    have hD : va_D A (wO o0 a0 a1 a2 a3 a4 a5 co c1 c2 c4 c5 made size tooG out_3 kept sizes rows taken) := by rw [eout_3]; exact hD
    refine lv_goto (tgt := 17) hx hb d_L_compare_10 (by decide) ?_
    refine lv_iconst (v := 0) hx hb d_L_compare_17 (by decide) ?_
    exact W.iret (v := 0) hx hb hr (fun t ht hW => ⟨⟨0, (made, size, tooG, out_3, kept, sizes, rows, taken), rfl, h, by rw [ht]; exact hP, va_K.moved hW.alike hK, hD⟩, hS.F ht⟩) hS.2.2 d_L_compare_18
def wp_L_ratio (made : Int32) (size : Int32) (tooG : Int32) (out : (Nat → Int64)) (kept : (Nat → Int32)) (sizes : (Nat → Int32)) (rows : (Nat → Int32)) (taken : (Nat → Int32)) (p1 : Int32) (p2 : Int32) (p3 : Int32) (post : Int32 → Int32 → Int32 → Int32 → (Nat → Int64) → (Nat → Int32) → (Nat → Int32) → (Nat → Int32) → (Nat → Int32) → Prop) : Prop :=
  wp_G_ratio made kept sizes p1 p2 p3 (fun r1 => vp_in 0 1 ∧ (∀ out_3 : (Nat → Int64), out_3 = vp_updL out (0 : Int32).toNatClampNeg r1 → (post 0 made size tooG out_3 kept sizes rows taken))) (fun E => (E = "java/lang/IndexOutOfBoundsException" → (post 1 made size tooG out kept sizes rows taken)) ∧ (¬ E = "java/lang/IndexOutOfBoundsException" → ((E = "java/lang/IllegalStateException" → (post 2 made size tooG out kept sizes rows taken)) ∧ (¬ E = "java/lang/IllegalStateException" → ((E = "java/lang/IllegalArgumentException" → (post 3 made size tooG out kept sizes rows taken)) ∧ (¬ E = "java/lang/IllegalArgumentException" → (False)))))))
set_option maxHeartbeats 4000000 in
set_option maxRecDepth 100000 in
theorem c_L_ratio (l : Launch) (D : va_G) (o0 a0 a1 a2 a3 a4 a5 : Nat) (co c1 c2 c4 c5 : ClassId) (sz : Nat) (made : Int32) (size : Int32) (tooG : Int32) (out : (Nat → Int64)) (kept : (Nat → Int32)) (sizes : (Nat → Int32)) (rows : (Nat → Int32)) (taken : (Nat → Int32)) (p1 : Int32) (p2 : Int32) (p3 : Int32) (post : Int32 → Int32 → Int32 → Int32 → (Nat → Int64) → (Nat → Int32) → (Nat → Int32) → (Nat → Int32) → (Nat → Int32) → Prop) (hst : l.stackTraces = false) : Met l y_L_ratio (Cond.codeWith y_L_ratio b_L_ratio 6 (some .int) [(0, 11, 14, 26), (0, 11, 18, 15), (0, 11, 22, 21)] :: BIG) ({ frames := 8, cells := 3, slots := 18, locals := 142 }) (va_Pc [.ref a0, .int p1, .int p2, .int p3, .ref o0] (pcH D vwCl (wO o0 a0 a1 a2 a3 a4 a5 co c1 c2 c4 c5 made size tooG out kept sizes rows taken) [(co, .long), (c1, .int), (c2, .int), (c4, .int), (c5, .int)] sz (wp_L_ratio made size tooG out kept sizes rows taken p1 p2 p3 post))) (va_Qi (fun (r : Int32) (u : Int32 × Int32 × Int32 × (Nat → Int64) × (Nat → Int32) × (Nat → Int32) × (Nat → Int32) × (Nat → Int32)) => post r u.1 u.2.1 u.2.2.1 u.2.2.2.1 u.2.2.2.2.1 u.2.2.2.2.2.1 u.2.2.2.2.2.2.1 u.2.2.2.2.2.2.2) (fun u => atG D vwCl [(co, .long), (c1, .int), (c2, .int), (c4, .int), (c5, .int)] (va_A (wO o0 a0 a1 a2 a3 a4 a5 co c1 c2 c4 c5 made size tooG out kept sizes rows taken) sz) (wO o0 a0 a1 a2 a3 a4 a5 co c1 c2 c4 c5 (u.1) (u.2.1) (u.2.2.1) (u.2.2.2.1) (u.2.2.2.2.1) (u.2.2.2.2.2.1) (u.2.2.2.2.2.2.1) (u.2.2.2.2.2.2.2))) (va_A (wO o0 a0 a1 a2 a3 a4 a5 co c1 c2 c4 c5 made size tooG out kept sizes rows taken) sz)) 3 18 (va_A (wO o0 a0 a1 a2 a3 a4 a5 co c1 c2 c4 c5 made size tooG out kept sizes rows taken) sz) := by
  refine va_MetW (cc := b_L_ratio) (maxL := 6) (ret := (some .int)) (by decide) rfl ?_
  intro p e s m args below meth c s₁ B hml hv
  obtain ⟨rfl, hsz, hP, hK, hD0, hX, h⟩ := hv
  have hx := B.exec
  have hb := B.bytes
  have hr := B.returns
  have hat := atoms_spec (ws := (Cond.codeWith y_L_ratio b_L_ratio 6 (some .int) [(0, 11, 14, 26), (0, 11, 18, 15), (0, 11, 22, 21)] :: BIG)) B.pre
  have htab := vx_table (x := y_L_ratio) B (hat _ List.mem_cons_self)
  have hB : ∀ w ∈ BIG, w.before _ s = true := fun w h => hat w (List.mem_cons_of_mem _ h)
  have hown : s.vm.findClass R_L = some m.cls := findClass_of_methodNamed B.named
  have hlocks := B.notSynchronized
  subst hsz
  have hD := hD0.self (sz := s.heap.size)
  generalize hAe : va_A (wO o0 a0 a1 a2 a3 a4 a5 co c1 c2 c4 c5 made size tooG out kept sizes rows taken) s.heap.size = A at hD hX ⊢
  have hA : ∀ q : Nat, s.heap.size ≤ q → A q := fun q h => by rw [← hAe]; exact Or.inr h
  have hl := lv_entry ([.ref a0, .int p1, .int p2, .int p3, .ref o0]) (n := 6) (Nat.le_of_ble_eq_true rfl)
  rw [lg_entry_eq]
  generalize (lg_sl ([.ref a0, .int p1, .int p2, .int p3, .ref o0]) ++ List.replicate (6 - (lg_sl ([.ref a0, .int p1, .int p2, .int p3, .ref o0])).length) Slot.unset).toArray = ls at hl ⊢
  have hl : lv_has ls 6 [(0, .ref a0), (1, .int p1), (2, .int p2), (3, .int p3), (4, .ref o0)] := hl
  refine W.cap (fun G Gi Ge => ?_)
  suffices hL : ∀ (H : Heap) (locs : List Loc), va_P D vwCl (wO o0 a0 a1 a2 a3 a4 a5 co c1 c2 c4 c5 made size tooG out kept sizes rows taken) H → va_S A s.heap H locs → G H locs (F0 m 0 ls []) from hL _ _ hP va_S.rf
  clear hP
  intro H locs hP hS
  refine Gi _ _ _ ?_
  unfold wp_L_ratio at h
  refine lv_aload hx hb d_L_ratio_0 (lv_at hl 4 rfl) ?_
  refine lv_iconst (v := 0) hx hb d_L_ratio_2 (by decide) ?_
  refine lv_aload_n hx hb d_L_ratio_3 rfl (lv_at hl 0 rfl) ?_
  refine lv_iload_n hx hb d_L_ratio_4 rfl (lv_at hl 1 rfl) ?_
  refine lv_iload_n hx hb d_L_ratio_5 rfl (lv_at hl 2 rfl) ?_
  refine lv_iload_n hx hb d_L_ratio_6 rfl (lv_at hl 3 rfl) ?_
  have hPc := hP.sub (ws' := (wG a0 a1 a2 a3 a4 a5 c1 c2 c4 c5 made size tooG kept sizes rows taken)) [1, 2, 3, 4, 5, 6] rfl
  have hDc := hD.sub (ws' := (wG a0 a1 a2 a3 a4 a5 c1 c2 c4 c5 made size tooG kept sizes rows taken)) [1, 2, 3, 4, 5, 6] (by decide) rfl
  have hKc := hK.sub (tys' := [(c1, .int), (c2, .int), (c4, .int), (c5, .int)]) [1, 2, 3, 4] rfl
  have hFc := va_free (wc := (wG a0 a1 a2 a3 a4 a5 c1 c2 c4 c5 made size tooG kept sizes rows taken)) hD hS hA [1, 2, 3, 4, 5, 6] rfl
  refine vx_calll (vx_runV (As := [.int p1, .int p2, .int p3]) (rest := [.int 0, .ref o0]) ⟨hx, hb, hml, hown, hB⟩ (c_G_ratio l D a0 a1 a2 a3 a4 a5 c1 c2 c4 c5 H.size made size tooG kept sizes rows taken p1 p2 p3 _ _ hst) (cwV 3 hB (goodV wd_306 wd_307 wd_308 wd_1 wd_309) rfl rfl rfl (by decide +kernel) ⟨Nat.le_of_ble_eq_true rfl, Nat.le_of_ble_eq_true rfl⟩) ⟨pcX_blind, va_recv hKc hPc (ci := 1) (q0 := 0) rfl rfl, pcX_pre hPc hKc hDc hS hX.1 hFc h⟩ rfl rfl hl.1 rfl (lv_room (Nat.le_of_ble_eq_true rfl)) d_L_ratio_7 ⟨Nat.le_of_ble_eq_true rfl, Nat.le_of_ble_eq_true rfl⟩) hS (fun q _ h => hFc q h) hFc (fun q _ h => hFc q h) (fun E ce q9 u t H1 locs ht hvm _ hBu hz1 hk1 hS hce hcv hcl => ?_) (fun r1 u t H1 locs ht hvm h hBu hz1 hk1 hS => ?_)
  · -- thrown
    obtain ⟨h, hP1, hK1, hD1⟩ := hBu
    rw [ht] at hP1
    obtain ⟨hP, hD⟩ := va_join (wr := [(o0, .inl (co, 1, .inr (.inl out)))]) (w1 := (wG a0 a1 a2 a3 a4 a5 c1 c2 c4 c5 made size tooG kept sizes rows taken)) hP hD [1, 2, 3, 4, 5, 6] [0] rfl rfl (by decide) (by decide) hk1 hFc hP1 hD1
    generalize H1 = H at *
    have hP : va_P D vwCl (wO o0 a0 a1 a2 a3 a4 a5 co c1 c2 c4 c5 made size tooG out kept sizes rows taken) H := hP
    have hD : va_D A (wO o0 a0 a1 a2 a3 a4 a5 co c1 c2 c4 c5 made size tooG out kept sizes rows taken) := hD
    by_cases e0 : E = "java/lang/IndexOutOfBoundsException"
    · replace h := h.1 e0
      subst e0
      refine vx_catch (own := R_L) (name := "java/lang/IndexOutOfBoundsException") hown [] ⟨0, 11, 14, 26⟩ [⟨0, 11, 18, 15⟩, ⟨0, 11, 22, 21⟩] (by rw [htab]; rfl) (fun z hz => by cases hz) (by decide) (by decide) (hB _ wd_173) (va_Nw.use rfl (hX.1.1 (.castable "java/lang/IndexOutOfBoundsException" "java/lang/IndexOutOfBoundsException") (by decide +kernel))) hce hcv hcl ?_
      refine W.widen (k := 3) (n := 18) (by omega) (by omega) ?_
      refine lv_astore (lv' := [(5, .ref q9), (0, .ref a0), (1, .int p1), (2, .int p2), (3, .int p3), (4, .ref o0)]) hx hb d_L_ratio_14 hl (by decide) rfl (fun ls hl => ?_)
      refine lv_iconst (v := 1) hx hb d_L_ratio_16 (by decide) ?_
      exact W.iret (v := 1) hx hb hr (fun t ht hW => ⟨⟨1, (made, size, tooG, out, kept, sizes, rows, taken), rfl, h, by rw [ht]; exact hP, va_K.moved hW.alike hK, hD⟩, hS.F ht⟩) hS.2.2 d_L_ratio_17
    · replace h := h.2 e0
      by_cases e1 : E = "java/lang/IllegalStateException"
      · replace h := h.1 e1
        subst e1
        refine vx_catch (own := R_L) (name := "java/lang/IllegalStateException") hown [⟨0, 11, 14, 26⟩] ⟨0, 11, 18, 15⟩ [⟨0, 11, 22, 21⟩] (by rw [htab]; rfl) (fun z hz => by simp only [List.mem_cons, List.not_mem_nil, or_false] at hz; rcases hz with rfl <;> first | exact Or.inr ⟨by decide, "java/lang/IndexOutOfBoundsException", hB _ wd_173, hX.2 ("java/lang/IllegalStateException", "java/lang/IndexOutOfBoundsException") (by decide +kernel)⟩ ) (by decide) (by decide) (hB _ wd_47) (va_Nw.use rfl (hX.1.1 (.castable "java/lang/IllegalStateException" "java/lang/IllegalStateException") (by decide +kernel))) hce hcv hcl ?_
        refine W.widen (k := 3) (n := 18) (by omega) (by omega) ?_
        refine lv_astore (lv' := [(5, .ref q9), (0, .ref a0), (1, .int p1), (2, .int p2), (3, .int p3), (4, .ref o0)]) hx hb d_L_ratio_18 hl (by decide) rfl (fun ls hl => ?_)
        refine lv_iconst (v := 2) hx hb d_L_ratio_20 (by decide) ?_
        exact W.iret (v := 2) hx hb hr (fun t ht hW => ⟨⟨2, (made, size, tooG, out, kept, sizes, rows, taken), rfl, h, by rw [ht]; exact hP, va_K.moved hW.alike hK, hD⟩, hS.F ht⟩) hS.2.2 d_L_ratio_21
      · replace h := h.2 e1
        by_cases e2 : E = "java/lang/IllegalArgumentException"
        · replace h := h.1 e2
          subst e2
          refine vx_catch (own := R_L) (name := "java/lang/IllegalArgumentException") hown [⟨0, 11, 14, 26⟩, ⟨0, 11, 18, 15⟩] ⟨0, 11, 22, 21⟩ [] (by rw [htab]; rfl) (fun z hz => by simp only [List.mem_cons, List.not_mem_nil, or_false] at hz; rcases hz with rfl | rfl <;> first | exact Or.inr ⟨by decide, "java/lang/IndexOutOfBoundsException", hB _ wd_173, hX.2 ("java/lang/IllegalArgumentException", "java/lang/IndexOutOfBoundsException") (by decide +kernel)⟩ | exact Or.inr ⟨by decide, "java/lang/IllegalStateException", hB _ wd_47, hX.2 ("java/lang/IllegalArgumentException", "java/lang/IllegalStateException") (by decide +kernel)⟩ ) (by decide) (by decide) (hB _ wd_151) (va_Nw.use rfl (hX.1.1 (.castable "java/lang/IllegalArgumentException" "java/lang/IllegalArgumentException") (by decide +kernel))) hce hcv hcl ?_
          refine W.widen (k := 3) (n := 18) (by omega) (by omega) ?_
          refine lv_astore (lv' := [(5, .ref q9), (0, .ref a0), (1, .int p1), (2, .int p2), (3, .int p3), (4, .ref o0)]) hx hb d_L_ratio_22 hl (by decide) rfl (fun ls hl => ?_)
          refine lv_iconst (v := 3) hx hb d_L_ratio_24 (by decide) ?_
          exact W.iret (v := 3) hx hb hr (fun t ht hW => ⟨⟨3, (made, size, tooG, out, kept, sizes, rows, taken), rfl, h, by rw [ht]; exact hP, va_K.moved hW.alike hK, hD⟩, hS.F ht⟩) hS.2.2 d_L_ratio_25
        · replace h := h.2 e2
          exact (show False from h).elim
  ·
    obtain ⟨hP1, hK1, hD1⟩ := hBu
    rw [ht] at hP1
    obtain ⟨hP, hD⟩ := va_join (wr := [(o0, .inl (co, 1, .inr (.inl out)))]) (w1 := (wG a0 a1 a2 a3 a4 a5 c1 c2 c4 c5 made size tooG kept sizes rows taken)) hP hD [1, 2, 3, 4, 5, 6] [0] rfl rfl (by decide) (by decide) hk1 hFc hP1 hD1
    generalize H1 = H at *
    have hP : va_P D vwCl (wO o0 a0 a1 a2 a3 a4 a5 co c1 c2 c4 c5 made size tooG out kept sizes rows taken) H := hP
    have hD : va_D A (wO o0 a0 a1 a2 a3 a4 a5 co c1 c2 c4 c5 made size tooG out kept sizes rows taken) := hD
    refine W.widen (k := 3) (n := 18) (by omega) (by omega) ?_
    obtain ⟨g2, h⟩ := h
    obtain ⟨out_3, eout_3⟩ : ∃ z : (Nat → Int64), z = vp_updL out (0 : Int32).toNatClampNeg r1 := ⟨_, rfl⟩
    replace h := h out_3 eout_3
    refine va_last hx hb hK hP hD hS 0 0 rfl rfl g2 d_L_ratio_10 (fun H locs hP hD hS => ?_)
    have hP : va_P D vwCl (wO o0 a0 a1 a2 a3 a4 a5 co c1 c2 c4 c5 made size tooG out_3 kept sizes rows taken) H := by rw [eout_3]; exact hP
    have hD : va_D A (wO o0 a0 a1 a2 a3 a4 a5 co c1 c2 c4 c5 made size tooG out_3 kept sizes rows taken) := by rw [eout_3]; exact hD
    refine lv_goto (tgt := 26) hx hb d_L_ratio_11 (by decide) ?_
    refine lv_iconst (v := 0) hx hb d_L_ratio_26 (by decide) ?_
    exact W.iret (v := 0) hx hb hr (fun t ht hW => ⟨⟨0, (made, size, tooG, out_3, kept, sizes, rows, taken), rfl, h, by rw [ht]; exact hP, va_K.moved hW.alike hK, hD⟩, hS.F ht⟩) hS.2.2 d_L_ratio_27
def wp_L_sign (made : Int32) (size : Int32) (tooG : Int32) (out : (Nat → Int64)) (kept : (Nat → Int32)) (sizes : (Nat → Int32)) (rows : (Nat → Int32)) (taken : (Nat → Int32)) (p1 : Int32) (post : Int32 → Int32 → Int32 → Int32 → (Nat → Int64) → (Nat → Int32) → (Nat → Int32) → (Nat → Int32) → (Nat → Int32) → Prop) : Prop :=
  wp_G_sign made kept sizes p1 (fun r1 => vp_in 0 1 ∧ (∀ out_3 : (Nat → Int64), out_3 = vp_updL out (0 : Int32).toNatClampNeg (r1.toInt64) → (post 0 made size tooG out_3 kept sizes rows taken))) (fun E => (E = "java/lang/IndexOutOfBoundsException" → (post 1 made size tooG out kept sizes rows taken)) ∧ (¬ E = "java/lang/IndexOutOfBoundsException" → (False)))
set_option maxHeartbeats 4000000 in
set_option maxRecDepth 100000 in
theorem c_L_sign (l : Launch) (D : va_G) (o0 a0 a1 a2 a3 a4 a5 : Nat) (co c1 c2 c4 c5 : ClassId) (sz : Nat) (made : Int32) (size : Int32) (tooG : Int32) (out : (Nat → Int64)) (kept : (Nat → Int32)) (sizes : (Nat → Int32)) (rows : (Nat → Int32)) (taken : (Nat → Int32)) (p1 : Int32) (post : Int32 → Int32 → Int32 → Int32 → (Nat → Int64) → (Nat → Int32) → (Nat → Int32) → (Nat → Int32) → (Nat → Int32) → Prop) (hst : l.stackTraces = false) : Met l y_L_sign (Cond.codeWith y_L_sign b_L_sign 4 (some .int) [(0, 9, 12, 26)] :: BIG) ({ frames := 8, cells := 1, slots := 6, locals := 132 }) (va_Pc [.ref a0, .int p1, .ref o0] (pcH D vwCl (wO o0 a0 a1 a2 a3 a4 a5 co c1 c2 c4 c5 made size tooG out kept sizes rows taken) [(co, .long), (c1, .int), (c2, .int), (c4, .int), (c5, .int)] sz (wp_L_sign made size tooG out kept sizes rows taken p1 post))) (va_Qi (fun (r : Int32) (u : Int32 × Int32 × Int32 × (Nat → Int64) × (Nat → Int32) × (Nat → Int32) × (Nat → Int32) × (Nat → Int32)) => post r u.1 u.2.1 u.2.2.1 u.2.2.2.1 u.2.2.2.2.1 u.2.2.2.2.2.1 u.2.2.2.2.2.2.1 u.2.2.2.2.2.2.2) (fun u => atG D vwCl [(co, .long), (c1, .int), (c2, .int), (c4, .int), (c5, .int)] (va_A (wO o0 a0 a1 a2 a3 a4 a5 co c1 c2 c4 c5 made size tooG out kept sizes rows taken) sz) (wO o0 a0 a1 a2 a3 a4 a5 co c1 c2 c4 c5 (u.1) (u.2.1) (u.2.2.1) (u.2.2.2.1) (u.2.2.2.2.1) (u.2.2.2.2.2.1) (u.2.2.2.2.2.2.1) (u.2.2.2.2.2.2.2))) (va_A (wO o0 a0 a1 a2 a3 a4 a5 co c1 c2 c4 c5 made size tooG out kept sizes rows taken) sz)) 1 6 (va_A (wO o0 a0 a1 a2 a3 a4 a5 co c1 c2 c4 c5 made size tooG out kept sizes rows taken) sz) := by
  refine va_MetW (cc := b_L_sign) (maxL := 4) (ret := (some .int)) (by decide) rfl ?_
  intro p e s m args below meth c s₁ B hml hv
  obtain ⟨rfl, hsz, hP, hK, hD0, hX, h⟩ := hv
  have hx := B.exec
  have hb := B.bytes
  have hr := B.returns
  have hat := atoms_spec (ws := (Cond.codeWith y_L_sign b_L_sign 4 (some .int) [(0, 9, 12, 26)] :: BIG)) B.pre
  have htab := vx_table (x := y_L_sign) B (hat _ List.mem_cons_self)
  have hB : ∀ w ∈ BIG, w.before _ s = true := fun w h => hat w (List.mem_cons_of_mem _ h)
  have hown : s.vm.findClass R_L = some m.cls := findClass_of_methodNamed B.named
  have hlocks := B.notSynchronized
  subst hsz
  have hD := hD0.self (sz := s.heap.size)
  generalize hAe : va_A (wO o0 a0 a1 a2 a3 a4 a5 co c1 c2 c4 c5 made size tooG out kept sizes rows taken) s.heap.size = A at hD hX ⊢
  have hA : ∀ q : Nat, s.heap.size ≤ q → A q := fun q h => by rw [← hAe]; exact Or.inr h
  have hl := lv_entry ([.ref a0, .int p1, .ref o0]) (n := 4) (Nat.le_of_ble_eq_true rfl)
  rw [lg_entry_eq]
  generalize (lg_sl ([.ref a0, .int p1, .ref o0]) ++ List.replicate (4 - (lg_sl ([.ref a0, .int p1, .ref o0])).length) Slot.unset).toArray = ls at hl ⊢
  have hl : lv_has ls 4 [(0, .ref a0), (1, .int p1), (2, .ref o0)] := hl
  refine W.cap (fun G Gi Ge => ?_)
  suffices hL : ∀ (H : Heap) (locs : List Loc), va_P D vwCl (wO o0 a0 a1 a2 a3 a4 a5 co c1 c2 c4 c5 made size tooG out kept sizes rows taken) H → va_S A s.heap H locs → G H locs (F0 m 0 ls []) from hL _ _ hP va_S.rf
  clear hP
  intro H locs hP hS
  refine Gi _ _ _ ?_
  unfold wp_L_sign at h
  refine lv_aload_n hx hb d_L_sign_0 rfl (lv_at hl 2 rfl) ?_
  refine lv_iconst (v := 0) hx hb d_L_sign_1 (by decide) ?_
  refine lv_aload_n hx hb d_L_sign_2 rfl (lv_at hl 0 rfl) ?_
  refine lv_iload_n hx hb d_L_sign_3 rfl (lv_at hl 1 rfl) ?_
  have hPc := hP.sub (ws' := (wG a0 a1 a2 a3 a4 a5 c1 c2 c4 c5 made size tooG kept sizes rows taken)) [1, 2, 3, 4, 5, 6] rfl
  have hDc := hD.sub (ws' := (wG a0 a1 a2 a3 a4 a5 c1 c2 c4 c5 made size tooG kept sizes rows taken)) [1, 2, 3, 4, 5, 6] (by decide) rfl
  have hKc := hK.sub (tys' := [(c1, .int), (c2, .int), (c4, .int), (c5, .int)]) [1, 2, 3, 4] rfl
  have hFc := va_free (wc := (wG a0 a1 a2 a3 a4 a5 c1 c2 c4 c5 made size tooG kept sizes rows taken)) hD hS hA [1, 2, 3, 4, 5, 6] rfl
  refine vx_calli (vx_runV (As := [.int p1]) (rest := [.int 0, .ref o0]) ⟨hx, hb, hml, hown, hB⟩ (c_G_sign l D a0 a1 a2 a3 a4 a5 c1 c2 c4 c5 H.size made size tooG kept sizes rows taken p1 _ _ hst) (cwV 1 hB (goodV wd_314 wd_315 wd_316 wd_1 wd_317) rfl rfl rfl (by decide +kernel) ⟨Nat.le_of_ble_eq_true rfl, Nat.le_of_ble_eq_true rfl⟩) ⟨pcX_blind, va_recv hKc hPc (ci := 1) (q0 := 0) rfl rfl, pcX_pre hPc hKc hDc hS hX.1 hFc h⟩ rfl rfl hl.1 rfl (lv_room (Nat.le_of_ble_eq_true rfl)) d_L_sign_4 ⟨Nat.le_of_ble_eq_true rfl, Nat.le_of_ble_eq_true rfl⟩) hS (fun q _ h => hFc q h) hFc (fun q _ h => hFc q h) (fun E ce q9 u t H1 locs ht hvm _ hBu hz1 hk1 hS hce hcv hcl => ?_) (fun r1 u t H1 locs ht hvm h hBu hz1 hk1 hS => ?_)
  · -- thrown
    obtain ⟨h, hP1, hK1, hD1⟩ := hBu
    rw [ht] at hP1
    obtain ⟨hP, hD⟩ := va_join (wr := [(o0, .inl (co, 1, .inr (.inl out)))]) (w1 := (wG a0 a1 a2 a3 a4 a5 c1 c2 c4 c5 made size tooG kept sizes rows taken)) hP hD [1, 2, 3, 4, 5, 6] [0] rfl rfl (by decide) (by decide) hk1 hFc hP1 hD1
    generalize H1 = H at *
    have hP : va_P D vwCl (wO o0 a0 a1 a2 a3 a4 a5 co c1 c2 c4 c5 made size tooG out kept sizes rows taken) H := hP
    have hD : va_D A (wO o0 a0 a1 a2 a3 a4 a5 co c1 c2 c4 c5 made size tooG out kept sizes rows taken) := hD
    by_cases e0 : E = "java/lang/IndexOutOfBoundsException"
    · replace h := h.1 e0
      subst e0
      refine vx_catch (own := R_L) (name := "java/lang/IndexOutOfBoundsException") hown [] ⟨0, 9, 12, 26⟩ [] (by rw [htab]; rfl) (fun z hz => by cases hz) (by decide) (by decide) (hB _ wd_173) (va_Nw.use rfl (hX.1.1 (.castable "java/lang/IndexOutOfBoundsException" "java/lang/IndexOutOfBoundsException") (by decide +kernel))) hce hcv hcl ?_
      refine W.widen (k := 1) (n := 6) (by omega) (by omega) ?_
      refine lv_astore_n (lv' := [(3, .ref q9), (0, .ref a0), (1, .int p1), (2, .ref o0)]) hx hb d_L_sign_12 rfl hl (by decide) rfl (fun ls hl => ?_)
      refine lv_iconst (v := 1) hx hb d_L_sign_13 (by decide) ?_
      exact W.iret (v := 1) hx hb hr (fun t ht hW => ⟨⟨1, (made, size, tooG, out, kept, sizes, rows, taken), rfl, h, by rw [ht]; exact hP, va_K.moved hW.alike hK, hD⟩, hS.F ht⟩) hS.2.2 d_L_sign_14
    · replace h := h.2 e0
      exact (show False from h).elim
  ·
    obtain ⟨hP1, hK1, hD1⟩ := hBu
    rw [ht] at hP1
    obtain ⟨hP, hD⟩ := va_join (wr := [(o0, .inl (co, 1, .inr (.inl out)))]) (w1 := (wG a0 a1 a2 a3 a4 a5 c1 c2 c4 c5 made size tooG kept sizes rows taken)) hP hD [1, 2, 3, 4, 5, 6] [0] rfl rfl (by decide) (by decide) hk1 hFc hP1 hD1
    generalize H1 = H at *
    have hP : va_P D vwCl (wO o0 a0 a1 a2 a3 a4 a5 co c1 c2 c4 c5 made size tooG out kept sizes rows taken) H := hP
    have hD : va_D A (wO o0 a0 a1 a2 a3 a4 a5 co c1 c2 c4 c5 made size tooG out kept sizes rows taken) := hD
    refine W.widen (k := 1) (n := 6) (by omega) (by omega) ?_
    refine lv_i2l hx hb d_L_sign_7 rfl ?_
    obtain ⟨g2, h⟩ := h
    obtain ⟨out_3, eout_3⟩ : ∃ z : (Nat → Int64), z = vp_updL out (0 : Int32).toNatClampNeg (r1.toInt64) := ⟨_, rfl⟩
    replace h := h out_3 eout_3
    refine va_last hx hb hK hP hD hS 0 0 rfl rfl g2 d_L_sign_8 (fun H locs hP hD hS => ?_)
    have hP : va_P D vwCl (wO o0 a0 a1 a2 a3 a4 a5 co c1 c2 c4 c5 made size tooG out_3 kept sizes rows taken) H := by rw [eout_3]; exact hP
    have hD : va_D A (wO o0 a0 a1 a2 a3 a4 a5 co c1 c2 c4 c5 made size tooG out_3 kept sizes rows taken) := by rw [eout_3]; exact hD
    refine lv_goto (tgt := 15) hx hb d_L_sign_9 (by decide) ?_
    refine lv_iconst (v := 0) hx hb d_L_sign_15 (by decide) ?_
    exact W.iret (v := 0) hx hb hr (fun t ht hW => ⟨⟨0, (made, size, tooG, out_3, kept, sizes, rows, taken), rfl, h, by rw [ht]; exact hP, va_K.moved hW.alike hK, hD⟩, hS.F ht⟩) hS.2.2 d_L_sign_16
def wp_L_same (made : Int32) (size : Int32) (tooG : Int32) (out : (Nat → Int64)) (kept : (Nat → Int32)) (sizes : (Nat → Int32)) (rows : (Nat → Int32)) (taken : (Nat → Int32)) (p1 : Int32) (p2 : Int32) (post : Int32 → Int32 → Int32 → Int32 → (Nat → Int64) → (Nat → Int32) → (Nat → Int32) → (Nat → Int32) → (Nat → Int32) → Prop) : Prop :=
  wp_G_same made kept sizes p1 p2 (fun r1 => (r1 = 0 → (vp_in 0 1 ∧ (∀ out_4 : (Nat → Int64), out_4 = vp_updL out (0 : Int32).toNatClampNeg 0 → (post 0 made size tooG out_4 kept sizes rows taken)))) ∧ (¬ r1 = 0 → (vp_in 0 1 ∧ (∀ out_6 : (Nat → Int64), out_6 = vp_updL out (0 : Int32).toNatClampNeg 1 → (post 0 made size tooG out_6 kept sizes rows taken))))) (fun E => (E = "java/lang/IndexOutOfBoundsException" → (post 1 made size tooG out kept sizes rows taken)) ∧ (¬ E = "java/lang/IndexOutOfBoundsException" → (False)))
set_option maxHeartbeats 4000000 in
set_option maxRecDepth 100000 in
theorem c_L_same (l : Launch) (D : va_G) (o0 a0 a1 a2 a3 a4 a5 : Nat) (co c1 c2 c4 c5 : ClassId) (sz : Nat) (made : Int32) (size : Int32) (tooG : Int32) (out : (Nat → Int64)) (kept : (Nat → Int32)) (sizes : (Nat → Int32)) (rows : (Nat → Int32)) (taken : (Nat → Int32)) (p1 : Int32) (p2 : Int32) (post : Int32 → Int32 → Int32 → Int32 → (Nat → Int64) → (Nat → Int32) → (Nat → Int32) → (Nat → Int32) → (Nat → Int32) → Prop) (hst : l.stackTraces = false) : Met l y_L_same (Cond.codeWith y_L_same b_L_same 5 (some .int) [(0, 17, 20, 26)] :: BIG) ({ frames := 8, cells := 2, slots := 12, locals := 136 }) (va_Pc [.ref a0, .int p1, .int p2, .ref o0] (pcH D vwCl (wO o0 a0 a1 a2 a3 a4 a5 co c1 c2 c4 c5 made size tooG out kept sizes rows taken) [(co, .long), (c1, .int), (c2, .int), (c4, .int), (c5, .int)] sz (wp_L_same made size tooG out kept sizes rows taken p1 p2 post))) (va_Qi (fun (r : Int32) (u : Int32 × Int32 × Int32 × (Nat → Int64) × (Nat → Int32) × (Nat → Int32) × (Nat → Int32) × (Nat → Int32)) => post r u.1 u.2.1 u.2.2.1 u.2.2.2.1 u.2.2.2.2.1 u.2.2.2.2.2.1 u.2.2.2.2.2.2.1 u.2.2.2.2.2.2.2) (fun u => atG D vwCl [(co, .long), (c1, .int), (c2, .int), (c4, .int), (c5, .int)] (va_A (wO o0 a0 a1 a2 a3 a4 a5 co c1 c2 c4 c5 made size tooG out kept sizes rows taken) sz) (wO o0 a0 a1 a2 a3 a4 a5 co c1 c2 c4 c5 (u.1) (u.2.1) (u.2.2.1) (u.2.2.2.1) (u.2.2.2.2.1) (u.2.2.2.2.2.1) (u.2.2.2.2.2.2.1) (u.2.2.2.2.2.2.2))) (va_A (wO o0 a0 a1 a2 a3 a4 a5 co c1 c2 c4 c5 made size tooG out kept sizes rows taken) sz)) 2 12 (va_A (wO o0 a0 a1 a2 a3 a4 a5 co c1 c2 c4 c5 made size tooG out kept sizes rows taken) sz) := by
  refine va_MetW (cc := b_L_same) (maxL := 5) (ret := (some .int)) (by decide) rfl ?_
  intro p e s m args below meth c s₁ B hml hv
  obtain ⟨rfl, hsz, hP, hK, hD0, hX, h⟩ := hv
  have hx := B.exec
  have hb := B.bytes
  have hr := B.returns
  have hat := atoms_spec (ws := (Cond.codeWith y_L_same b_L_same 5 (some .int) [(0, 17, 20, 26)] :: BIG)) B.pre
  have htab := vx_table (x := y_L_same) B (hat _ List.mem_cons_self)
  have hB : ∀ w ∈ BIG, w.before _ s = true := fun w h => hat w (List.mem_cons_of_mem _ h)
  have hown : s.vm.findClass R_L = some m.cls := findClass_of_methodNamed B.named
  have hlocks := B.notSynchronized
  subst hsz
  have hD := hD0.self (sz := s.heap.size)
  generalize hAe : va_A (wO o0 a0 a1 a2 a3 a4 a5 co c1 c2 c4 c5 made size tooG out kept sizes rows taken) s.heap.size = A at hD hX ⊢
  have hA : ∀ q : Nat, s.heap.size ≤ q → A q := fun q h => by rw [← hAe]; exact Or.inr h
  have hl := lv_entry ([.ref a0, .int p1, .int p2, .ref o0]) (n := 5) (Nat.le_of_ble_eq_true rfl)
  rw [lg_entry_eq]
  generalize (lg_sl ([.ref a0, .int p1, .int p2, .ref o0]) ++ List.replicate (5 - (lg_sl ([.ref a0, .int p1, .int p2, .ref o0])).length) Slot.unset).toArray = ls at hl ⊢
  have hl : lv_has ls 5 [(0, .ref a0), (1, .int p1), (2, .int p2), (3, .ref o0)] := hl
  refine W.cap (fun G Gi Ge => ?_)
  suffices hL : ∀ (H : Heap) (locs : List Loc), va_P D vwCl (wO o0 a0 a1 a2 a3 a4 a5 co c1 c2 c4 c5 made size tooG out kept sizes rows taken) H → va_S A s.heap H locs → G H locs (F0 m 0 ls []) from hL _ _ hP va_S.rf
  clear hP
  intro H locs hP hS
  refine Gi _ _ _ ?_
  unfold wp_L_same at h
  refine lv_aload_n hx hb d_L_same_0 rfl (lv_at hl 3 rfl) ?_
  refine lv_iconst (v := 0) hx hb d_L_same_1 (by decide) ?_
  refine lv_aload_n hx hb d_L_same_2 rfl (lv_at hl 0 rfl) ?_
  refine lv_iload_n hx hb d_L_same_3 rfl (lv_at hl 1 rfl) ?_
  refine lv_iload_n hx hb d_L_same_4 rfl (lv_at hl 2 rfl) ?_
  have hPc := hP.sub (ws' := (wG a0 a1 a2 a3 a4 a5 c1 c2 c4 c5 made size tooG kept sizes rows taken)) [1, 2, 3, 4, 5, 6] rfl
  have hDc := hD.sub (ws' := (wG a0 a1 a2 a3 a4 a5 c1 c2 c4 c5 made size tooG kept sizes rows taken)) [1, 2, 3, 4, 5, 6] (by decide) rfl
  have hKc := hK.sub (tys' := [(c1, .int), (c2, .int), (c4, .int), (c5, .int)]) [1, 2, 3, 4] rfl
  have hFc := va_free (wc := (wG a0 a1 a2 a3 a4 a5 c1 c2 c4 c5 made size tooG kept sizes rows taken)) hD hS hA [1, 2, 3, 4, 5, 6] rfl
  refine vx_calli (vx_runV (As := [.int p1, .int p2]) (rest := [.int 0, .ref o0]) ⟨hx, hb, hml, hown, hB⟩ (c_G_same l D a0 a1 a2 a3 a4 a5 c1 c2 c4 c5 H.size made size tooG kept sizes rows taken p1 p2 _ _ hst) (cwV 2 hB (goodV wd_321 wd_322 wd_323 wd_1 wd_324) rfl rfl rfl (by decide +kernel) ⟨Nat.le_of_ble_eq_true rfl, Nat.le_of_ble_eq_true rfl⟩) ⟨pcX_blind, va_recv hKc hPc (ci := 1) (q0 := 0) rfl rfl, pcX_pre hPc hKc hDc hS hX.1 hFc h⟩ rfl rfl hl.1 rfl (lv_room (Nat.le_of_ble_eq_true rfl)) d_L_same_5 ⟨Nat.le_of_ble_eq_true rfl, Nat.le_of_ble_eq_true rfl⟩) hS (fun q _ h => hFc q h) hFc (fun q _ h => hFc q h) (fun E ce q9 u t H1 locs ht hvm _ hBu hz1 hk1 hS hce hcv hcl => ?_) (fun r1 u t H1 locs ht hvm h hBu hz1 hk1 hS => ?_)
  · -- thrown
    obtain ⟨h, hP1, hK1, hD1⟩ := hBu
    rw [ht] at hP1
    obtain ⟨hP, hD⟩ := va_join (wr := [(o0, .inl (co, 1, .inr (.inl out)))]) (w1 := (wG a0 a1 a2 a3 a4 a5 c1 c2 c4 c5 made size tooG kept sizes rows taken)) hP hD [1, 2, 3, 4, 5, 6] [0] rfl rfl (by decide) (by decide) hk1 hFc hP1 hD1
    generalize H1 = H at *
    have hP : va_P D vwCl (wO o0 a0 a1 a2 a3 a4 a5 co c1 c2 c4 c5 made size tooG out kept sizes rows taken) H := hP
    have hD : va_D A (wO o0 a0 a1 a2 a3 a4 a5 co c1 c2 c4 c5 made size tooG out kept sizes rows taken) := hD
    by_cases e0 : E = "java/lang/IndexOutOfBoundsException"
    · replace h := h.1 e0
      subst e0
      refine vx_catch (own := R_L) (name := "java/lang/IndexOutOfBoundsException") hown [] ⟨0, 17, 20, 26⟩ [] (by rw [htab]; rfl) (fun z hz => by cases hz) (by decide) (by decide) (hB _ wd_173) (va_Nw.use rfl (hX.1.1 (.castable "java/lang/IndexOutOfBoundsException" "java/lang/IndexOutOfBoundsException") (by decide +kernel))) hce hcv hcl ?_
      refine W.widen (k := 2) (n := 12) (by omega) (by omega) ?_
      refine lv_astore (lv' := [(4, .ref q9), (0, .ref a0), (1, .int p1), (2, .int p2), (3, .ref o0)]) hx hb d_L_same_20 hl (by decide) rfl (fun ls hl => ?_)
      refine lv_iconst (v := 1) hx hb d_L_same_22 (by decide) ?_
      exact W.iret (v := 1) hx hb hr (fun t ht hW => ⟨⟨1, (made, size, tooG, out, kept, sizes, rows, taken), rfl, h, by rw [ht]; exact hP, va_K.moved hW.alike hK, hD⟩, hS.F ht⟩) hS.2.2 d_L_same_23
    · replace h := h.2 e0
      exact (show False from h).elim
  ·
    obtain ⟨hP1, hK1, hD1⟩ := hBu
    rw [ht] at hP1
    obtain ⟨hP, hD⟩ := va_join (wr := [(o0, .inl (co, 1, .inr (.inl out)))]) (w1 := (wG a0 a1 a2 a3 a4 a5 c1 c2 c4 c5 made size tooG kept sizes rows taken)) hP hD [1, 2, 3, 4, 5, 6] [0] rfl rfl (by decide) (by decide) hk1 hFc hP1 hD1
    generalize H1 = H at *
    have hP : va_P D vwCl (wO o0 a0 a1 a2 a3 a4 a5 co c1 c2 c4 c5 made size tooG out kept sizes rows taken) H := hP
    have hD : va_D A (wO o0 a0 a1 a2 a3 a4 a5 co c1 c2 c4 c5 made size tooG out kept sizes rows taken) := hD
    refine W.widen (k := 2) (n := 12) (by omega) (by omega) ?_
    refine lv_if_eq (tgt := 15) hx hb d_L_same_8 (by decide) (fun hc2 => ?_) (fun hc2 => ?_)
    · replace h := h.1 hc2
      refine lv_lconst (v := 0) hx hb d_L_same_15 (by decide) ?_
      obtain ⟨g3, h⟩ := h
      obtain ⟨out_4, eout_4⟩ : ∃ z : (Nat → Int64), z = vp_updL out (0 : Int32).toNatClampNeg 0 := ⟨_, rfl⟩
      replace h := h out_4 eout_4
      refine va_last hx hb hK hP hD hS 0 0 rfl rfl g3 d_L_same_16 (fun H locs hP hD hS => ?_)
      have hP : va_P D vwCl (wO o0 a0 a1 a2 a3 a4 a5 co c1 c2 c4 c5 made size tooG out_4 kept sizes rows taken) H := by rw [eout_4]; exact hP
      have hD : va_D A (wO o0 a0 a1 a2 a3 a4 a5 co c1 c2 c4 c5 made size tooG out_4 kept sizes rows taken) := by rw [eout_4]; exact hD
      refine lv_goto (tgt := 24) hx hb d_L_same_17 (by decide) ?_
      refine lv_iconst (v := 0) hx hb d_L_same_24 (by decide) ?_
      exact W.iret (v := 0) hx hb hr (fun t ht hW => ⟨⟨0, (made, size, tooG, out_4, kept, sizes, rows, taken), rfl, h, by rw [ht]; exact hP, va_K.moved hW.alike hK, hD⟩, hS.F ht⟩) hS.2.2 d_L_same_25
    · replace h := h.2 hc2
      refine lv_lconst (v := 1) hx hb d_L_same_11 (by decide) ?_
      refine lv_goto (tgt := 16) hx hb d_L_same_12 (by decide) ?_
      obtain ⟨g5, h⟩ := h
      obtain ⟨out_6, eout_6⟩ : ∃ z : (Nat → Int64), z = vp_updL out (0 : Int32).toNatClampNeg 1 := ⟨_, rfl⟩
      replace h := h out_6 eout_6
      refine va_last hx hb hK hP hD hS 0 0 rfl rfl g5 d_L_same_16 (fun H locs hP hD hS => ?_)
      have hP : va_P D vwCl (wO o0 a0 a1 a2 a3 a4 a5 co c1 c2 c4 c5 made size tooG out_6 kept sizes rows taken) H := by rw [eout_6]; exact hP
      have hD : va_D A (wO o0 a0 a1 a2 a3 a4 a5 co c1 c2 c4 c5 made size tooG out_6 kept sizes rows taken) := by rw [eout_6]; exact hD
      refine lv_goto (tgt := 24) hx hb d_L_same_17 (by decide) ?_
      refine lv_iconst (v := 0) hx hb d_L_same_24 (by decide) ?_
      exact W.iret (v := 0) hx hb hr (fun t ht hW => ⟨⟨0, (made, size, tooG, out_6, kept, sizes, rows, taken), rfl, h, by rw [ht]; exact hP, va_K.moved hW.alike hK, hD⟩, hS.F ht⟩) hS.2.2 d_L_same_25
def wp_L_fastest (made : Int32) (size : Int32) (tooG : Int32) (out : (Nat → Int64)) (kept : (Nat → Int32)) (sizes : (Nat → Int32)) (rows : (Nat → Int32)) (taken : (Nat → Int32)) (p1 : Int32) (post : Int32 → Int32 → Int32 → Int32 → (Nat → Int64) → (Nat → Int32) → (Nat → Int32) → (Nat → Int32) → (Nat → Int32) → Prop) : Prop :=
  wp_G_fastest made kept sizes p1 (fun r1 => vp_in 0 1 ∧ (∀ out_3 : (Nat → Int64), out_3 = vp_updL out (0 : Int32).toNatClampNeg (r1.toInt64) → (post 0 made size tooG out_3 kept sizes rows taken))) (fun E => (E = "java/lang/IllegalArgumentException" → (post 1 made size tooG out kept sizes rows taken)) ∧ (¬ E = "java/lang/IllegalArgumentException" → (False)))
set_option maxHeartbeats 4000000 in
set_option maxRecDepth 100000 in
theorem c_L_fastest (l : Launch) (D : va_G) (o0 a0 a1 a2 a3 a4 a5 : Nat) (co c1 c2 c4 c5 : ClassId) (sz : Nat) (made : Int32) (size : Int32) (tooG : Int32) (out : (Nat → Int64)) (kept : (Nat → Int32)) (sizes : (Nat → Int32)) (rows : (Nat → Int32)) (taken : (Nat → Int32)) (p1 : Int32) (post : Int32 → Int32 → Int32 → Int32 → (Nat → Int64) → (Nat → Int32) → (Nat → Int32) → (Nat → Int32) → (Nat → Int32) → Prop) (hst : l.stackTraces = false) : Met l y_L_fastest (Cond.codeWith y_L_fastest b_L_fastest 4 (some .int) [(0, 9, 12, 21)] :: BIG) ({ frames := 7, cells := 1, slots := 6, locals := 113 }) (va_Pc [.ref a0, .int p1, .ref o0] (pcH D vwCl (wO o0 a0 a1 a2 a3 a4 a5 co c1 c2 c4 c5 made size tooG out kept sizes rows taken) [(co, .long), (c1, .int), (c2, .int), (c4, .int), (c5, .int)] sz (wp_L_fastest made size tooG out kept sizes rows taken p1 post))) (va_Qi (fun (r : Int32) (u : Int32 × Int32 × Int32 × (Nat → Int64) × (Nat → Int32) × (Nat → Int32) × (Nat → Int32) × (Nat → Int32)) => post r u.1 u.2.1 u.2.2.1 u.2.2.2.1 u.2.2.2.2.1 u.2.2.2.2.2.1 u.2.2.2.2.2.2.1 u.2.2.2.2.2.2.2) (fun u => atG D vwCl [(co, .long), (c1, .int), (c2, .int), (c4, .int), (c5, .int)] (va_A (wO o0 a0 a1 a2 a3 a4 a5 co c1 c2 c4 c5 made size tooG out kept sizes rows taken) sz) (wO o0 a0 a1 a2 a3 a4 a5 co c1 c2 c4 c5 (u.1) (u.2.1) (u.2.2.1) (u.2.2.2.1) (u.2.2.2.2.1) (u.2.2.2.2.2.1) (u.2.2.2.2.2.2.1) (u.2.2.2.2.2.2.2))) (va_A (wO o0 a0 a1 a2 a3 a4 a5 co c1 c2 c4 c5 made size tooG out kept sizes rows taken) sz)) 1 6 (va_A (wO o0 a0 a1 a2 a3 a4 a5 co c1 c2 c4 c5 made size tooG out kept sizes rows taken) sz) := by
  refine va_MetW (cc := b_L_fastest) (maxL := 4) (ret := (some .int)) (by decide) rfl ?_
  intro p e s m args below meth c s₁ B hml hv
  obtain ⟨rfl, hsz, hP, hK, hD0, hX, h⟩ := hv
  have hx := B.exec
  have hb := B.bytes
  have hr := B.returns
  have hat := atoms_spec (ws := (Cond.codeWith y_L_fastest b_L_fastest 4 (some .int) [(0, 9, 12, 21)] :: BIG)) B.pre
  have htab := vx_table (x := y_L_fastest) B (hat _ List.mem_cons_self)
  have hB : ∀ w ∈ BIG, w.before _ s = true := fun w h => hat w (List.mem_cons_of_mem _ h)
  have hown : s.vm.findClass R_L = some m.cls := findClass_of_methodNamed B.named
  have hlocks := B.notSynchronized
  subst hsz
  have hD := hD0.self (sz := s.heap.size)
  generalize hAe : va_A (wO o0 a0 a1 a2 a3 a4 a5 co c1 c2 c4 c5 made size tooG out kept sizes rows taken) s.heap.size = A at hD hX ⊢
  have hA : ∀ q : Nat, s.heap.size ≤ q → A q := fun q h => by rw [← hAe]; exact Or.inr h
  have hl := lv_entry ([.ref a0, .int p1, .ref o0]) (n := 4) (Nat.le_of_ble_eq_true rfl)
  rw [lg_entry_eq]
  generalize (lg_sl ([.ref a0, .int p1, .ref o0]) ++ List.replicate (4 - (lg_sl ([.ref a0, .int p1, .ref o0])).length) Slot.unset).toArray = ls at hl ⊢
  have hl : lv_has ls 4 [(0, .ref a0), (1, .int p1), (2, .ref o0)] := hl
  refine W.cap (fun G Gi Ge => ?_)
  suffices hL : ∀ (H : Heap) (locs : List Loc), va_P D vwCl (wO o0 a0 a1 a2 a3 a4 a5 co c1 c2 c4 c5 made size tooG out kept sizes rows taken) H → va_S A s.heap H locs → G H locs (F0 m 0 ls []) from hL _ _ hP va_S.rf
  clear hP
  intro H locs hP hS
  refine Gi _ _ _ ?_
  unfold wp_L_fastest at h
  refine lv_aload_n hx hb d_L_fastest_0 rfl (lv_at hl 2 rfl) ?_
  refine lv_iconst (v := 0) hx hb d_L_fastest_1 (by decide) ?_
  refine lv_aload_n hx hb d_L_fastest_2 rfl (lv_at hl 0 rfl) ?_
  refine lv_iload_n hx hb d_L_fastest_3 rfl (lv_at hl 1 rfl) ?_
  have hPc := hP.sub (ws' := (wG a0 a1 a2 a3 a4 a5 c1 c2 c4 c5 made size tooG kept sizes rows taken)) [1, 2, 3, 4, 5, 6] rfl
  have hDc := hD.sub (ws' := (wG a0 a1 a2 a3 a4 a5 c1 c2 c4 c5 made size tooG kept sizes rows taken)) [1, 2, 3, 4, 5, 6] (by decide) rfl
  have hKc := hK.sub (tys' := [(c1, .int), (c2, .int), (c4, .int), (c5, .int)]) [1, 2, 3, 4] rfl
  have hFc := va_free (wc := (wG a0 a1 a2 a3 a4 a5 c1 c2 c4 c5 made size tooG kept sizes rows taken)) hD hS hA [1, 2, 3, 4, 5, 6] rfl
  refine vx_calli (vx_runV (As := [.int p1]) (rest := [.int 0, .ref o0]) ⟨hx, hb, hml, hown, hB⟩ (c_G_fastest l D a0 a1 a2 a3 a4 a5 c1 c2 c4 c5 H.size made size tooG kept sizes rows taken p1 _ _ hst) (cwV 1 hB (goodV wd_328 wd_329 wd_330 wd_1 wd_331) rfl rfl rfl (by decide +kernel) ⟨Nat.le_of_ble_eq_true rfl, Nat.le_of_ble_eq_true rfl⟩) ⟨pcX_blind, va_recv hKc hPc (ci := 1) (q0 := 0) rfl rfl, pcX_pre hPc hKc hDc hS hX.1 hFc h⟩ rfl rfl hl.1 rfl (lv_room (Nat.le_of_ble_eq_true rfl)) d_L_fastest_4 ⟨Nat.le_of_ble_eq_true rfl, Nat.le_of_ble_eq_true rfl⟩) hS (fun q _ h => hFc q h) hFc (fun q _ h => hFc q h) (fun E ce q9 u t H1 locs ht hvm _ hBu hz1 hk1 hS hce hcv hcl => ?_) (fun r1 u t H1 locs ht hvm h hBu hz1 hk1 hS => ?_)
  · -- thrown
    obtain ⟨h, hP1, hK1, hD1⟩ := hBu
    rw [ht] at hP1
    obtain ⟨hP, hD⟩ := va_join (wr := [(o0, .inl (co, 1, .inr (.inl out)))]) (w1 := (wG a0 a1 a2 a3 a4 a5 c1 c2 c4 c5 made size tooG kept sizes rows taken)) hP hD [1, 2, 3, 4, 5, 6] [0] rfl rfl (by decide) (by decide) hk1 hFc hP1 hD1
    generalize H1 = H at *
    have hP : va_P D vwCl (wO o0 a0 a1 a2 a3 a4 a5 co c1 c2 c4 c5 made size tooG out kept sizes rows taken) H := hP
    have hD : va_D A (wO o0 a0 a1 a2 a3 a4 a5 co c1 c2 c4 c5 made size tooG out kept sizes rows taken) := hD
    by_cases e0 : E = "java/lang/IllegalArgumentException"
    · replace h := h.1 e0
      subst e0
      refine vx_catch (own := R_L) (name := "java/lang/IllegalArgumentException") hown [] ⟨0, 9, 12, 21⟩ [] (by rw [htab]; rfl) (fun z hz => by cases hz) (by decide) (by decide) (hB _ wd_151) (va_Nw.use rfl (hX.1.1 (.castable "java/lang/IllegalArgumentException" "java/lang/IllegalArgumentException") (by decide +kernel))) hce hcv hcl ?_
      refine W.widen (k := 1) (n := 6) (by omega) (by omega) ?_
      refine lv_astore_n (lv' := [(3, .ref q9), (0, .ref a0), (1, .int p1), (2, .ref o0)]) hx hb d_L_fastest_12 rfl hl (by decide) rfl (fun ls hl => ?_)
      refine lv_iconst (v := 1) hx hb d_L_fastest_13 (by decide) ?_
      exact W.iret (v := 1) hx hb hr (fun t ht hW => ⟨⟨1, (made, size, tooG, out, kept, sizes, rows, taken), rfl, h, by rw [ht]; exact hP, va_K.moved hW.alike hK, hD⟩, hS.F ht⟩) hS.2.2 d_L_fastest_14
    · replace h := h.2 e0
      exact (show False from h).elim
  ·
    obtain ⟨hP1, hK1, hD1⟩ := hBu
    rw [ht] at hP1
    obtain ⟨hP, hD⟩ := va_join (wr := [(o0, .inl (co, 1, .inr (.inl out)))]) (w1 := (wG a0 a1 a2 a3 a4 a5 c1 c2 c4 c5 made size tooG kept sizes rows taken)) hP hD [1, 2, 3, 4, 5, 6] [0] rfl rfl (by decide) (by decide) hk1 hFc hP1 hD1
    generalize H1 = H at *
    have hP : va_P D vwCl (wO o0 a0 a1 a2 a3 a4 a5 co c1 c2 c4 c5 made size tooG out kept sizes rows taken) H := hP
    have hD : va_D A (wO o0 a0 a1 a2 a3 a4 a5 co c1 c2 c4 c5 made size tooG out kept sizes rows taken) := hD
    refine W.widen (k := 1) (n := 6) (by omega) (by omega) ?_
    refine lv_i2l hx hb d_L_fastest_7 rfl ?_
    obtain ⟨g2, h⟩ := h
    obtain ⟨out_3, eout_3⟩ : ∃ z : (Nat → Int64), z = vp_updL out (0 : Int32).toNatClampNeg (r1.toInt64) := ⟨_, rfl⟩
    replace h := h out_3 eout_3
    refine va_last hx hb hK hP hD hS 0 0 rfl rfl g2 d_L_fastest_8 (fun H locs hP hD hS => ?_)
    have hP : va_P D vwCl (wO o0 a0 a1 a2 a3 a4 a5 co c1 c2 c4 c5 made size tooG out_3 kept sizes rows taken) H := by rw [eout_3]; exact hP
    have hD : va_D A (wO o0 a0 a1 a2 a3 a4 a5 co c1 c2 c4 c5 made size tooG out_3 kept sizes rows taken) := by rw [eout_3]; exact hD
    refine lv_goto (tgt := 15) hx hb d_L_fastest_9 (by decide) ?_
    refine lv_iconst (v := 0) hx hb d_L_fastest_15 (by decide) ?_
    exact W.iret (v := 0) hx hb hr (fun t ht hW => ⟨⟨0, (made, size, tooG, out_3, kept, sizes, rows, taken), rfl, h, by rw [ht]; exact hP, va_K.moved hW.alike hK, hD⟩, hS.F ht⟩) hS.2.2 d_L_fastest_16
