/-! The worlds: cells of an object of the class, of one of the reference; what of the tables a call of the class needs beside the good words. -/
abbrev wG (a0 a1 a2 a3 a4 a5 : Nat) (c1 c2 c4 c5 : ClassId) (made : Int32) (size : Int32) (tooG : Int32) (kept : (Nat → Int32)) (sizes : (Nat → Int32)) (rows : (Nat → Int32)) (taken : (Nat → Int32)) : va_W := [(a0, .inr (1, [.ref a1, .ref a2, .ref a3, .int made])), (a1, .inl (c1, 5600, .inl kept)), (a2, .inl (c2, 80, .inl sizes)), (a3, .inr (0, [.ref a4, .ref a5, .int size, .int tooG])), (a4, .inl (c4, 700, .inl rows)), (a5, .inl (c5, 7, .inl taken))]
abbrev wM (m0 m1 m2 m3 m4 m5 : Nat) (k1 k2 k3 k4 k5 : ClassId) (code : Int32) (funs : Int32) (made : Int32) (great : Int32) (up : Int64) (down : Int64) (size : (Nat → Int32)) (rows : (Nat → Int32)) (work : (Nat → Int32)) (xx : (Nat → Int32)) (power : (Nat → Int32)) : va_W := [(m0, .inr (2, [.int code, .int funs, .ref m1, .ref m2, .int made, .ref m3, .int great, .ref m4, .ref m5, .long up, .long down])), (m1, .inl (k1, 80, .inl size)), (m2, .inl (k2, 5600, .inl rows)), (m3, .inl (k3, 840, .inl work)), (m4, .inl (k4, 7, .inl xx)), (m5, .inl (k5, 5, .inl power))]
def strsG : List (Nat × String) := [(29, "the part below is 0"), (137, "no room for one more function"), (148, "the new function is too great"), (56, "no such kind of letter"), (134, "no such function"), (100, "no such term"), (102, "no such part of a term"), (109, "it comes near to no number"), (139, "no such part of a number"), (121, "their quotient comes near to no number but 0"), (130, "a bit is set of a function that isn't there")]
def nwG : List Cond := [Cond.methodLinkNest "GrowthLimits$Work" 62 y_G_divisorOf "GrowthLimits", Cond.methodLinkNest "GrowthLimits$Work" 48 y_G_rankOfTerms "GrowthLimits", Cond.castable "java/lang/ArithmeticException" "java/lang/ArithmeticException", Cond.castable "java/lang/IllegalArgumentException" "java/lang/IllegalArgumentException", Cond.castable "java/lang/IllegalStateException" "java/lang/IllegalStateException", Cond.castable "java/lang/IndexOutOfBoundsException" "java/lang/IndexOutOfBoundsException", Cond.declares ⟨"java/lang/RuntimeException", "<init>", "(Ljava/lang/String;)V"⟩, Cond.declares ⟨"java/lang/Exception", "<init>", "(Ljava/lang/String;)V"⟩, Cond.declares ⟨"java/lang/Throwable", "<init>", "(Ljava/lang/String;)V"⟩]
def xsG (A : Nat → Prop) (U : State) : Prop := (∀ w ∈ nwG, va_Nw w U) ∧ vx_Zq Bundle.tN "UNASSIGNED_STACK" Bundle.steD A U U.heap ∧ vx_Zq Bundle.tN "SUPPRESSED_SENTINEL" Bundle.listD A U U.heap ∧ ∀ q ∈ strsG, ∃ sa : Nat, vk_R R_G q.1 q.2 sa U
theorem nwG_warm {w : Cond} (hw : w ∈ nwG) {s U : State} (hW : s.WarmedH U.vm) (h : va_Nw w s) : va_Nw w U := by
  simp only [nwG, List.mem_cons, List.not_mem_nil, or_false] at hw
  rcases hw with rfl | rfl | rfl | rfl | rfl | rfl | rfl | rfl | rfl
  · exact va_Nw.warmM hW h
  · exact va_Nw.warmM hW h
  · exact va_Nw.warmC hW h
  · exact va_Nw.warmC hW h
  · exact va_Nw.warmC hW h
  · exact va_Nw.warmC hW h
  · exact va_Nw.warmD hW h
  · exact va_Nw.warmD hW h
  · exact va_Nw.warmD hW h
theorem nwG_use {s : State} {args : Array Value} (h : ∀ w ∈ nwG, va_Nw w s) : ∀ w ∈ nwG, w.before args s = true := fun w hw => by
  have hz := h w hw
  simp only [nwG, List.mem_cons, List.not_mem_nil, or_false] at hw
  rcases hw with rfl | rfl | rfl | rfl | rfl | rfl | rfl | rfl | rfl <;> exact va_Nw.use rfl hz
theorem nwG_same {w : Cond} (hw : w ∈ nwG) {s U : State} (hW : s.vm = U.vm) (h : va_Nw w s) : va_Nw w U := by
  simp only [nwG, List.mem_cons, List.not_mem_nil, or_false] at hw
  rcases hw with rfl | rfl | rfl | rfl | rfl | rfl | rfl | rfl | rfl <;> exact va_Nw.same rfl hW h
abbrev pcX (D : va_G) (cl : List vw_C) (ws : va_W) (tys : List (ClassId × FieldType)) (sz : Nat) (φ : Prop) : State → Prop := fun U => U.heap.size = sz ∧ va_P D cl ws U.heap ∧ va_K D cl tys U ∧ va_D (fun _ => True) ws ∧ xsG (va_A ws sz) U ∧ φ
abbrev atX (D : va_G) (cl : List vw_C) (tys : List (ClassId × FieldType)) (A : Nat → Prop) (ws : va_W) (φ : Prop) : State → Prop := fun t => φ ∧ va_P D cl ws t.heap ∧ va_K D cl tys t ∧ va_D A ws
theorem xsG_calling {A : Nat → Prop} {U : State} {g : JFrame} {mk : MethodId} {a : Array Value} (h : xsG A U) : xsG A (U.calling g mk a) :=
  ⟨fun w hw => nwG_same (s := U) (U := U.calling g mk a) hw rfl (h.1 w hw), vx_Zq.moved (u := U) (U := U.calling g mk a) (Vm.Alike.refl U.vm) h.2.1, vx_Zq.moved (u := U) (U := U.calling g mk a) (Vm.Alike.refl U.vm) h.2.2.1, fun q hq => by
    obtain ⟨sa, hs⟩ := h.2.2.2 q hq
    exact ⟨sa, vk_R.same (u := U) (U := U.calling g mk a) rfl hs⟩⟩
theorem xsG_to {A B : Nat → Prop} {s U : State} {H : Heap} {locs : List Loc} (h : xsG A s) (hS : va_S A s.heap H locs) (hF : ∀ q, B q → A q) (hU : U.heap = H) (hW : s.WarmedH U.vm) : xsG B U :=
  ⟨fun w hw => nwG_warm hw hW (h.1 w hw), by rw [hU]; exact ((h.2.1.kept hS.2.1).narrow hF).moved hW.alike, by rw [hU]; exact ((h.2.2.1.kept hS.2.1).narrow hF).moved hW.alike, fun q hq => by
    obtain ⟨sa, hs⟩ := h.2.2.2 q hq
    exact ⟨sa, vk_R.warm hW hs⟩⟩
theorem pcX_blind {av : List Value} {D : va_G} {cl : List vw_C} {ws : va_W} {tys : List (ClassId × FieldType)} {sz : Nat} {φ : Prop} : FrameBlind (va_Pc av (pcX D cl ws tys sz φ)) := fun a U g mk q => by
  obtain ⟨q0, q1, qP, qK, qD, qX, qh⟩ := q
  exact ⟨q0, q1, qP, va_K.moved (u := U) (U := U.calling g mk a) (Vm.Alike.refl U.vm) qK, qD, xsG_calling qX, qh⟩
theorem pcX_pre {av : List Value} {D : va_G} {cl : List vw_C} {ws : va_W} {tys : List (ClassId × FieldType)} {φ : Prop} {s : State} {H : Heap} {A : Nat → Prop} {locs : List Loc} (hP : va_P D cl ws H) (hK : va_K D cl tys s) (hD : va_D A ws) (hS : va_S A s.heap H locs) (hX : xsG A s) (hF : ∀ q, va_A ws H.size q → A q) (h : φ) :
    ∀ U : State, U.heap = H → s.WarmedH U.vm → va_Pc av (pcX D cl ws tys H.size φ) av.toArray U := fun U hU hW => ⟨rfl, by rw [hU], by rw [hU]; exact hP, va_K.moved hW.alike hK, hD.weaken (fun _ _ _ _ => trivial), xsG_to hX hS hF hU hW, h⟩
theorem va_P_grown {D : va_G} {cl : List vw_C} {ws : va_W} {H H1 : Heap} (hP : va_P D cl ws H) (hk : ∀ q : Nat, q < H.size → H1[q]? = H[q]?) : va_P D cl ws H1 := hP.kept (fun k q h => hk q.1 (hP k q h).lt)
theorem va_F_grown {A : Nat → Prop} {s t : State} {H : Heap} {locs : List Loc} (hS : va_S A s.heap H locs) (hz : H.size ≤ t.heap.size) (hk : ∀ q : Nat, q < H.size → t.heap[q]? = H[q]?) : va_F A s t :=
  ⟨Nat.le_trans hS.1 hz, fun q h1 h2 => (hk q (Nat.lt_of_lt_of_le h1 hS.1)).trans (hS.2.1 q h1 h2)⟩
theorem atE_0 : ∀ w ∈ (vx_atS R_G 31 "java/lang/ArithmeticException" ["java/lang/RuntimeException", "java/lang/Exception"]).filter goodWord, w ∈ BIG := by decide +kernel
theorem ngE_0 : ∀ w ∈ (vx_atS R_G 31 "java/lang/ArithmeticException" ["java/lang/RuntimeException", "java/lang/Exception"]).filter (fun w => !goodWord w), w ∈ nwG := by decide +kernel
theorem otE_0 (ik : Nat) : ∀ w ∈ Cond.classLink R_G ik "java/lang/ArithmeticException" :: Cond.initialized "java/lang/ArithmeticException" :: vx_atS R_G 31 "java/lang/ArithmeticException" ["java/lang/RuntimeException", "java/lang/Exception"], vx_ot w = true := by
  intro w hw
  rcases List.mem_cons.mp hw with rfl | hw
  · rfl
  rcases List.mem_cons.mp hw with rfl | hw
  · rfl
  exact (by decide +kernel : ∀ w ∈ vx_atS R_G 31 "java/lang/ArithmeticException" ["java/lang/RuntimeException", "java/lang/Exception"], vx_ot w = true) w hw
theorem atE_1 : ∀ w ∈ (vx_atS R_G 58 "java/lang/IllegalArgumentException" ["java/lang/RuntimeException", "java/lang/Exception"]).filter goodWord, w ∈ BIG := by decide +kernel
theorem ngE_1 : ∀ w ∈ (vx_atS R_G 58 "java/lang/IllegalArgumentException" ["java/lang/RuntimeException", "java/lang/Exception"]).filter (fun w => !goodWord w), w ∈ nwG := by decide +kernel
theorem otE_1 (ik : Nat) : ∀ w ∈ Cond.classLink R_G ik "java/lang/IllegalArgumentException" :: Cond.initialized "java/lang/IllegalArgumentException" :: vx_atS R_G 58 "java/lang/IllegalArgumentException" ["java/lang/RuntimeException", "java/lang/Exception"], vx_ot w = true := by
  intro w hw
  rcases List.mem_cons.mp hw with rfl | hw
  · rfl
  rcases List.mem_cons.mp hw with rfl | hw
  · rfl
  exact (by decide +kernel : ∀ w ∈ vx_atS R_G 58 "java/lang/IllegalArgumentException" ["java/lang/RuntimeException", "java/lang/Exception"], vx_ot w = true) w hw
theorem atE_2 : ∀ w ∈ (vx_atS R_G 111 "java/lang/IllegalStateException" ["java/lang/RuntimeException", "java/lang/Exception"]).filter goodWord, w ∈ BIG := by decide +kernel
theorem ngE_2 : ∀ w ∈ (vx_atS R_G 111 "java/lang/IllegalStateException" ["java/lang/RuntimeException", "java/lang/Exception"]).filter (fun w => !goodWord w), w ∈ nwG := by decide +kernel
theorem otE_2 (ik : Nat) : ∀ w ∈ Cond.classLink R_G ik "java/lang/IllegalStateException" :: Cond.initialized "java/lang/IllegalStateException" :: vx_atS R_G 111 "java/lang/IllegalStateException" ["java/lang/RuntimeException", "java/lang/Exception"], vx_ot w = true := by
  intro w hw
  rcases List.mem_cons.mp hw with rfl | hw
  · rfl
  rcases List.mem_cons.mp hw with rfl | hw
  · rfl
  exact (by decide +kernel : ∀ w ∈ vx_atS R_G 111 "java/lang/IllegalStateException" ["java/lang/RuntimeException", "java/lang/Exception"], vx_ot w = true) w hw
theorem atE_3 : ∀ w ∈ (vx_atS R_G 136 "java/lang/IndexOutOfBoundsException" ["java/lang/RuntimeException", "java/lang/Exception"]).filter goodWord, w ∈ BIG := by decide +kernel
theorem ngE_3 : ∀ w ∈ (vx_atS R_G 136 "java/lang/IndexOutOfBoundsException" ["java/lang/RuntimeException", "java/lang/Exception"]).filter (fun w => !goodWord w), w ∈ nwG := by decide +kernel
theorem otE_3 (ik : Nat) : ∀ w ∈ Cond.classLink R_G ik "java/lang/IndexOutOfBoundsException" :: Cond.initialized "java/lang/IndexOutOfBoundsException" :: vx_atS R_G 136 "java/lang/IndexOutOfBoundsException" ["java/lang/RuntimeException", "java/lang/Exception"], vx_ot w = true := by
  intro w hw
  rcases List.mem_cons.mp hw with rfl | hw
  · rfl
  rcases List.mem_cons.mp hw with rfl | hw
  · rfl
  exact (by decide +kernel : ∀ w ∈ vx_atS R_G 136 "java/lang/IndexOutOfBoundsException" ["java/lang/RuntimeException", "java/lang/Exception"], vx_ot w = true) w hw
