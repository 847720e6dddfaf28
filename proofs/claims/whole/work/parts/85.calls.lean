/-! THE CALLS OF THE LAW: class, reference, check. -/
def InvL (made : Int32) (size : Int32) (tooG : Int32) (qcode : Int32) (qfuns : Int32) (qmade : Int32) (qgreat : Int32) (qup : Int64) (qdown : Int64) (out : (Nat → Int64)) (kept : (Nat → Int32)) (sizes : (Nat → Int32)) (rows : (Nat → Int32)) (taken : (Nat → Int32)) (qsize : (Nat → Int32)) (qrows : (Nat → Int32)) (qwork : (Nat → Int32)) (qxx : (Nat → Int32)) (qpower : (Nat → Int32)) : Prop := ∃ (n : Nat) (zs : Nat → Nat), InvK n zs made kept sizes qfuns qsize qrows
def CRd {α : Type} (conv : α → Int64) (o : Int32 ⊕ α) (r : Int32) (out' : Nat → Int64) : Prop := match o with
  | .inl e => r = e ∧ e ≠ 0
  | .inr a => r = 0 ∧ out' 0 = conv a
theorem cl0 : (0 : Int32).toNatClampNeg = 0 := by decide
theorem rq_ok {α : Type} {conv : α → Int64} {o : Int32 ⊕ α} {r : Int32} {out' : Nat → Int64} {N : Int32 → Prop} (hC : CRd conv o r out') (hN : ∀ c, N c) : RQ o (fun b code' => wp_M_thrown code' (fun t => (t = r → ((¬ r = 0 → N code') ∧ (r = 0 → (vp_in 0 1 ∧ ((lg_cmp (out' (0 : Int32).toNatClampNeg) (conv b) = 0 → N code') ∧ (¬ lg_cmp (out' (0 : Int32).toNatClampNeg) (conv b) = 0 → False)))))) ∧ (¬ t = r → False))) := by
  match o, hC with
  | .inl e, hC => exact fun b => tail_ok hC.1.symm (fun w => absurd (hC.1.symm.trans w) hC.2) (hN _)
  | .inr a, hC => exact tail_ok hC.1.symm (fun _ => by rw [cl0]; exact hC.2) (hN _)
theorem rl_ok {o : Int32 ⊕ Int64} {r : Int32} {out' : Nat → Int64} {N : Int32 → Int64 → Int64 → Prop} (hC : CRd id o r out') (hN : ∀ c u d, N c u d) : RL o (fun b code' u d => wp_M_thrown code' (fun t => (t = r → ((¬ r = 0 → N code' u d) ∧ (r = 0 → (vp_in 0 1 ∧ ((lg_cmp (out' (0 : Int32).toNatClampNeg) b = 0 → N code' u d) ∧ (¬ lg_cmp (out' (0 : Int32).toNatClampNeg) b = 0 → False)))))) ∧ (¬ t = r → False))) := by
  match o, hC with
  | .inl e, hC => exact fun b u d => tail_ok hC.1.symm (fun w => absurd (hC.1.symm.trans w) hC.2) (hN _ _ _)
  | .inr a, hC => exact fun u d => tail_ok hC.1.symm (fun _ => by rw [cl0]; exact hC.2) (hN _ _ _)
theorem rd1 {α : Type} {conv : α → Int64} {o : Int32 ⊕ α} {E : Int32 → String} {E1 : String} {out : Nat → Int64} {post : Int32 → (Nat → Int64) → Prop} (he : ∀ e, o = .inl e → e = 1) (h1 : E 1 = E1) (k : ∀ r out', CRd conv o r out' → post r out') :
    RG o E (fun r1 => vp_in 0 1 ∧ ∀ out' : Nat → Int64, out' = vp_updL out (0 : Int32).toNatClampNeg (conv r1) → post 0 out') (fun F => (F = E1 → post 1 out) ∧ (¬ F = E1 → False)) := by
  match o, he, k with
  | .inl e, he, k =>
    have := he e rfl
    subst this
    exact ⟨fun _ => k _ _ ⟨rfl, by decide⟩, fun w => absurd h1 w⟩
  | .inr a, he, k => exact ⟨pk_in 0 1 (by omega), fun out' e => k _ _ ⟨rfl, by rw [e, cl0, pk_uLs]⟩⟩
theorem rd2 {α : Type} {conv : α → Int64} {o : Int32 ⊕ α} {E : Int32 → String} {E1 E2 : String} {out : Nat → Int64} {post : Int32 → (Nat → Int64) → Prop} (he : ∀ e, o = .inl e → e = 1 ∨ e = 2) (h1 : E 1 = E1) (h2 : E 2 = E2) (h12 : E2 ≠ E1) (k : ∀ r out', CRd conv o r out' → post r out') :
    RG o E (fun r1 => vp_in 0 1 ∧ ∀ out' : Nat → Int64, out' = vp_updL out (0 : Int32).toNatClampNeg (conv r1) → post 0 out') (fun F => (F = E1 → post 1 out) ∧ (¬ F = E1 → ((F = E2 → post 2 out) ∧ (¬ F = E2 → False)))) := by
  match o, he, k with
  | .inl e, he, k =>
    rcases he e rfl with q | q
    · subst q
      exact ⟨fun _ => k _ _ ⟨rfl, by decide⟩, fun w => absurd h1 w⟩
    · subst q
      exact ⟨fun w => absurd (h2.symm.trans w) h12, fun _ => ⟨fun _ => k _ _ ⟨rfl, by decide⟩, fun w => absurd h2 w⟩⟩
  | .inr a, he, k => exact ⟨pk_in 0 1 (by omega), fun out' e => k _ _ ⟨rfl, by rw [e, cl0, pk_uLs]⟩⟩
theorem rd3 {α : Type} {conv : α → Int64} {o : Int32 ⊕ α} {E : Int32 → String} {E1 E2 E3 : String} {out : Nat → Int64} {post : Int32 → (Nat → Int64) → Prop} (he : ∀ e, o = .inl e → e = 1 ∨ e = 2 ∨ e = 3) (h1 : E 1 = E1) (h2 : E 2 = E2) (h3 : E 3 = E3) (h12 : E2 ≠ E1) (h13 : E3 ≠ E1) (h23 : E3 ≠ E2) (k : ∀ r out', CRd conv o r out' → post r out') :
    RG o E (fun r1 => vp_in 0 1 ∧ ∀ out' : Nat → Int64, out' = vp_updL out (0 : Int32).toNatClampNeg (conv r1) → post 0 out') (fun F => (F = E1 → post 1 out) ∧ (¬ F = E1 → ((F = E2 → post 2 out) ∧ (¬ F = E2 → ((F = E3 → post 3 out) ∧ (¬ F = E3 → False)))))) := by
  match o, he, k with
  | .inl e, he, k =>
    rcases he e rfl with q | q | q
    · subst q
      exact ⟨fun _ => k _ _ ⟨rfl, by decide⟩, fun w => absurd h1 w⟩
    · subst q
      exact ⟨fun w => absurd (h2.symm.trans w) h12, fun _ => ⟨fun _ => k _ _ ⟨rfl, by decide⟩, fun w => absurd h2 w⟩⟩
    · subst q
      exact ⟨fun w => absurd (h3.symm.trans w) h13, fun _ => ⟨fun w => absurd (h3.symm.trans w) h23, fun _ => ⟨fun _ => k _ _ ⟨rfl, by decide⟩, fun w => absurd h3 w⟩⟩⟩
  | .inr a, he, k => exact ⟨pk_in 0 1 (by omega), fun out' e => k _ _ ⟨rfl, by rw [e, cl0, pk_uLs]⟩⟩
def c01 (a : Int32) : Int64 := if a = 0 then 0 else 1
section It
variable {n : Nat} {zs : Nat → Nat} {made : Int32} {size : Int32} {tooG : Int32} {qcode : Int32} {qfuns : Int32} {qmade : Int32} {qgreat : Int32} {qup : Int64} {qdown : Int64} {out : (Nat → Int64)} {kept : (Nat → Int32)} {sizes : (Nat → Int32)} {rows : (Nat → Int32)} {taken : (Nat → Int32)} {qsize : (Nat → Int32)} {qrows : (Nat → Int32)} {qwork : (Nat → Int32)} {qxx : (Nat → Int32)} {qpower : (Nat → Int32)}
variable {s1 s2 s3 p q r0 : Int32}
theorem L_number_ok {o : Oc} {post : Int32 → Int32 → Int32 → Int32 → (Nat → Int64) → (Nat → Int32) → (Nat → Int32) → (Nat → Int32) → (Nat → Int32) → Prop} (he : ∀ e, o = .inl e → e = 1 ∨ e = 2)
    (hG : ∀ size tooG rows taken post postx, GOK o n made kept sizes "java/lang/ArithmeticException" (fun r m k z => ∀ a b c d, post r m a b k z c d) (fun E => ∀ a b c d, postx E made a b kept sizes c d) → wp_G_number made size tooG kept sizes rows taken p q post postx)
    (k : ∀ r made' kept' sizes' out' a b c d, CR o n made kept sizes r made' kept' sizes' out' → post r made' a b out' kept' sizes' c d) : wp_L_number made size tooG out kept sizes rows taken p q post := by
  unfold wp_L_number
  exact hG _ _ _ _ _ _ (mkL he (by decide) k)
theorem itk_0 (h : InvK n zs made kept sizes qfuns qsize qrows) : it_0 made size tooG out kept sizes rows taken s1 s2 qcode qfuns qmade qgreat qup qdown qsize qrows qwork qxx InvL qpower := by
  obtain ⟨o, ho1, ho2, hG, hM⟩ := number_pair h s1 s2
  unfold it_0
  refine L_number_ok ho2 hG fun r made' kept' sizes' out' a b c d hC => hM _ _ _ _ _ _ _ _ fun b' code' funs' qm' gr' up' dn' size' rows' work' xx' hMR => ?_
  obtain ⟨t1, t2, t3⟩ := fin_ok h ho1 hC hMR
  exact tail_ok t1 (fun w => by rw [cl0]; exact t2 w) t3
theorem L_letter_ok {o : Oc} {post : Int32 → Int32 → Int32 → Int32 → (Nat → Int64) → (Nat → Int32) → (Nat → Int32) → (Nat → Int32) → (Nat → Int32) → Prop} (he : ∀ e, o = .inl e → e = 1 ∨ e = 2)
    (hG : ∀ size tooG rows taken post postx, GOK o n made kept sizes "java/lang/IllegalArgumentException" (fun r m k z => ∀ a b c d, post r m a b k z c d) (fun E => ∀ a b c d, postx E made a b kept sizes c d) → wp_G_letter made size tooG kept sizes rows taken p post postx)
    (k : ∀ r made' kept' sizes' out' a b c d, CR o n made kept sizes r made' kept' sizes' out' → post r made' a b out' kept' sizes' c d) : wp_L_letter made size tooG out kept sizes rows taken p post := by
  unfold wp_L_letter
  exact hG _ _ _ _ _ _ (mkL he (by decide) k)
theorem itk_1 (h : InvK n zs made kept sizes qfuns qsize qrows) : it_1 made size tooG out kept sizes rows taken s1 qcode qfuns qmade qgreat qup qdown qsize qrows qwork qxx InvL qpower := by
  obtain ⟨o, ho1, ho2, hG, hM⟩ := letter_pair h s1
  unfold it_1
  refine L_letter_ok ho2 hG fun r made' kept' sizes' out' a b c d hC => hM _ _ _ _ _ _ _ _ fun b' code' funs' qm' gr' up' dn' size' rows' work' xx' hMR => ?_
  obtain ⟨t1, t2, t3⟩ := fin_ok h ho1 hC hMR
  exact tail_ok t1 (fun w => by rw [cl0]; exact t2 w) t3
theorem L_add_ok {o : Oc} {post : Int32 → Int32 → Int32 → Int32 → (Nat → Int64) → (Nat → Int32) → (Nat → Int32) → (Nat → Int32) → (Nat → Int32) → Prop} (he : ∀ e, o = .inl e → e = 1 ∨ e = 2)
    (hG : ∀ size tooG rows taken post postx, GOK o n made kept sizes "java/lang/IndexOutOfBoundsException" (fun r m k z => ∀ a b c d, post r m a b k z c d) (fun E => ∀ a b c d, postx E made a b kept sizes c d) → wp_G_add made size tooG kept sizes rows taken p q post postx)
    (k : ∀ r made' kept' sizes' out' a b c d, CR o n made kept sizes r made' kept' sizes' out' → post r made' a b out' kept' sizes' c d) : wp_L_add made size tooG out kept sizes rows taken p q post := by
  unfold wp_L_add
  exact hG _ _ _ _ _ _ (mkL he (by decide) k)
theorem itk_2 (h : InvK n zs made kept sizes qfuns qsize qrows) : it_2 made size tooG out kept sizes rows taken s1 s2 qcode qfuns qmade qgreat qup qdown qsize qrows qwork qxx InvL qpower := by
  obtain ⟨o, ho1, ho2, hG, hM⟩ := add_pair h s1 s2
  unfold it_2
  refine L_add_ok ho2 hG fun r made' kept' sizes' out' a b c d hC => hM _ _ _ _ _ _ _ _ fun b' code' funs' qm' gr' up' dn' size' rows' work' xx' hMR => ?_
  obtain ⟨t1, t2, t3⟩ := fin_ok h ho1 hC hMR
  exact tail_ok t1 (fun w => by rw [cl0]; exact t2 w) t3
theorem L_times_ok {o : Oc} {post : Int32 → Int32 → Int32 → Int32 → (Nat → Int64) → (Nat → Int32) → (Nat → Int32) → (Nat → Int32) → (Nat → Int32) → Prop} (he : ∀ e, o = .inl e → e = 1 ∨ e = 2)
    (hG : ∀ size tooG rows taken post postx, GOK o n made kept sizes "java/lang/IndexOutOfBoundsException" (fun r m k z => ∀ a b c d, post r m a b k z c d) (fun E => ∀ a b c d, postx E made a b kept sizes c d) → wp_G_times made size tooG kept sizes rows taken p q post postx)
    (k : ∀ r made' kept' sizes' out' a b c d, CR o n made kept sizes r made' kept' sizes' out' → post r made' a b out' kept' sizes' c d) : wp_L_times made size tooG out kept sizes rows taken p q post := by
  unfold wp_L_times
  exact hG _ _ _ _ _ _ (mkL he (by decide) k)
theorem itk_3 (h : InvK n zs made kept sizes qfuns qsize qrows) : it_3 made size tooG out kept sizes rows taken s1 s2 qcode qfuns qmade qgreat qup qdown qsize qrows qwork qxx InvL qpower := by
  obtain ⟨o, ho1, ho2, hG, hM⟩ := times_pair h s1 s2
  unfold it_3
  refine L_times_ok ho2 hG fun r made' kept' sizes' out' a b c d hC => hM _ _ _ _ _ _ _ _ fun b' code' funs' qm' gr' up' dn' size' rows' work' xx' hMR => ?_
  obtain ⟨t1, t2, t3⟩ := fin_ok h ho1 hC hMR
  exact tail_ok t1 (fun w => by rw [cl0]; exact t2 w) t3
theorem L_over_ok {o : Oc} {post : Int32 → Int32 → Int32 → Int32 → (Nat → Int64) → (Nat → Int32) → (Nat → Int32) → (Nat → Int32) → (Nat → Int32) → Prop} (he : ∀ e, o = .inl e → e = 1 ∨ e = 2)
    (hG : ∀ size tooG rows taken post postx, GOK o n made kept sizes "java/lang/IndexOutOfBoundsException" (fun r m k z => ∀ a b c d, post r m a b k z c d) (fun E => ∀ a b c d, postx E made a b kept sizes c d) → wp_G_over made size tooG kept sizes rows taken p q post postx)
    (k : ∀ r made' kept' sizes' out' a b c d, CR o n made kept sizes r made' kept' sizes' out' → post r made' a b out' kept' sizes' c d) : wp_L_over made size tooG out kept sizes rows taken p q post := by
  unfold wp_L_over
  exact hG _ _ _ _ _ _ (mkL he (by decide) k)
theorem itk_4 (h : InvK n zs made kept sizes qfuns qsize qrows) : it_4 made size tooG out kept sizes rows taken s1 s2 qcode qfuns qmade qgreat qup qdown qsize qrows qwork qxx InvL qpower := by
  obtain ⟨o, ho1, ho2, hG, hM⟩ := over_pair h s1 s2
  unfold it_4
  refine L_over_ok ho2 hG fun r made' kept' sizes' out' a b c d hC => hM _ _ _ _ _ _ _ _ fun b' code' funs' qm' gr' up' dn' size' rows' work' xx' hMR => ?_
  obtain ⟨t1, t2, t3⟩ := fin_ok h ho1 hC hMR
  exact tail_ok t1 (fun w => by rw [cl0]; exact t2 w) t3
theorem L_derive_ok {o : Oc} {post : Int32 → Int32 → Int32 → Int32 → (Nat → Int64) → (Nat → Int32) → (Nat → Int32) → (Nat → Int32) → (Nat → Int32) → Prop} (he : ∀ e, o = .inl e → e = 1 ∨ e = 2)
    (hG : ∀ size tooG rows taken post postx, GOK o n made kept sizes "java/lang/IndexOutOfBoundsException" (fun r m k z => ∀ a b c d, post r m a b k z c d) (fun E => ∀ a b c d, postx E made a b kept sizes c d) → wp_G_derive made size tooG kept sizes rows taken p post postx)
    (k : ∀ r made' kept' sizes' out' a b c d, CR o n made kept sizes r made' kept' sizes' out' → post r made' a b out' kept' sizes' c d) : wp_L_derive made size tooG out kept sizes rows taken p post := by
  unfold wp_L_derive
  exact hG _ _ _ _ _ _ (mkL he (by decide) k)
theorem itk_5 (h : InvK n zs made kept sizes qfuns qsize qrows) : it_5 made size tooG out kept sizes rows taken s1 qcode qfuns qmade qgreat qup qdown qsize qrows qwork qxx InvL qpower := by
  obtain ⟨o, ho1, ho2, hG, hM⟩ := derive_pair h s1
  unfold it_5
  refine L_derive_ok ho2 hG fun r made' kept' sizes' out' a b c d hC => hM _ _ _ _ _ _ _ _ fun b' code' funs' qm' gr' up' dn' size' rows' work' xx' hMR => ?_
  obtain ⟨t1, t2, t3⟩ := fin_ok h ho1 hC hMR
  exact tail_ok t1 (fun w => by rw [cl0]; exact t2 w) t3
theorem L_logarithm_ok {o : Oc} {post : Int32 → Int32 → Int32 → Int32 → (Nat → Int64) → (Nat → Int32) → (Nat → Int32) → (Nat → Int32) → (Nat → Int32) → Prop} (he : ∀ e, o = .inl e → e = 1 ∨ e = 2)
    (hG : ∀ size tooG rows taken post postx, GOK o n made kept sizes "java/lang/IndexOutOfBoundsException" (fun r m k z => ∀ a b c d, post r m a b k z c d) (fun E => ∀ a b c d, postx E made a b kept sizes c d) → wp_G_logarithm made size tooG kept sizes rows taken p post postx)
    (k : ∀ r made' kept' sizes' out' a b c d, CR o n made kept sizes r made' kept' sizes' out' → post r made' a b out' kept' sizes' c d) : wp_L_logarithm made size tooG out kept sizes rows taken p post := by
  unfold wp_L_logarithm
  exact hG _ _ _ _ _ _ (mkL he (by decide) k)
theorem itk_6 (h : InvK n zs made kept sizes qfuns qsize qrows) : it_6 made size tooG out kept sizes rows taken s1 qcode qfuns qmade qgreat qup qdown qsize qrows qwork qxx InvL qpower := by
  obtain ⟨o, ho1, ho2, hG, hM⟩ := logarithm_pair h s1
  unfold it_6
  refine L_logarithm_ok ho2 hG fun r made' kept' sizes' out' a b c d hC => hM _ _ _ _ _ _ _ _ fun b' code' funs' qm' gr' up' dn' size' rows' work' xx' hMR => ?_
  obtain ⟨t1, t2, t3⟩ := fin_ok h ho1 hC hMR
  exact tail_ok t1 (fun w => by rw [cl0]; exact t2 w) t3
theorem L_exponential_ok {o : Oc} {post : Int32 → Int32 → Int32 → Int32 → (Nat → Int64) → (Nat → Int32) → (Nat → Int32) → (Nat → Int32) → (Nat → Int32) → Prop} (he : ∀ e, o = .inl e → e = 1 ∨ e = 2)
    (hG : ∀ size tooG rows taken post postx, GOK o n made kept sizes "java/lang/IndexOutOfBoundsException" (fun r m k z => ∀ a b c d, post r m a b k z c d) (fun E => ∀ a b c d, postx E made a b kept sizes c d) → wp_G_exponential made size tooG kept sizes rows taken p post postx)
    (k : ∀ r made' kept' sizes' out' a b c d, CR o n made kept sizes r made' kept' sizes' out' → post r made' a b out' kept' sizes' c d) : wp_L_exponential made size tooG out kept sizes rows taken p post := by
  unfold wp_L_exponential
  exact hG _ _ _ _ _ _ (mkL he (by decide) k)
theorem itk_7 (h : InvK n zs made kept sizes qfuns qsize qrows) : it_7 made size tooG out kept sizes rows taken s1 qcode qfuns qmade qgreat qup qdown qsize qrows qwork qxx qpower InvL := by
  obtain ⟨o, ho1, ho2, hG, hM⟩ := exponential_pair h s1
  unfold it_7
  refine L_exponential_ok ho2 hG fun r made' kept' sizes' out' a b c d hC => hM _ _ _ _ _ _ _ _ _ fun b' code' funs' qm' gr' up' dn' size' rows' work' xx' power' hMR => ?_
  obtain ⟨t1, t2, t3⟩ := fin_ok h ho1 hC hMR
  exact tail_ok t1 (fun w => by rw [cl0]; exact t2 w) t3
theorem L_terms_ok {o : Int32 ⊕ Int32} {post : Int32 → Int32 → Int32 → Int32 → (Nat → Int64) → (Nat → Int32) → (Nat → Int32) → (Nat → Int32) → (Nat → Int32) → Prop} (he : ∀ e, o = .inl e → e = 1)
    (hG : ∀ post postx, RG o eI post postx → wp_G_terms made sizes p post postx)
    (k : ∀ r out', CRd Int32.toInt64 o r out' → post r made size tooG out' kept sizes rows taken) : wp_L_terms made size tooG out kept sizes rows taken p post := by
  unfold wp_L_terms
  exact hG _ _ (rd1 (conv := Int32.toInt64) (post := fun r out' => post r made size tooG out' kept sizes rows taken) he (by decide) k)
theorem itk_8 (h : InvK n zs made kept sizes qfuns qsize qrows) : it_8 made size tooG out kept sizes rows taken s1 qcode qfuns qsize InvL qmade qgreat qup qdown qrows qwork qxx qpower := by
  obtain ⟨o, ho, hG, hM⟩ := terms_read h s1
  unfold it_8
  exact L_terms_ok ho hG fun r out' hC => hM _ _ (rq_ok hC fun _ => ⟨n, zs, h⟩)
theorem L_term_ok {o : Int32 ⊕ Int32} {post : Int32 → Int32 → Int32 → Int32 → (Nat → Int64) → (Nat → Int32) → (Nat → Int32) → (Nat → Int32) → (Nat → Int32) → Prop} (he : ∀ e, o = .inl e → e = 1 ∨ e = 2)
    (hG : ∀ post postx, RG o eT post postx → wp_G_term made kept sizes p q r0 post postx)
    (k : ∀ r out', CRd Int32.toInt64 o r out' → post r made size tooG out' kept sizes rows taken) : wp_L_term made size tooG out kept sizes rows taken p q r0 post := by
  unfold wp_L_term
  exact hG _ _ (rd2 (conv := Int32.toInt64) (post := fun r out' => post r made size tooG out' kept sizes rows taken) he (by decide) (by decide) (by decide) k)
theorem itk_9 (h : InvK n zs made kept sizes qfuns qsize qrows) : it_9 made size tooG out kept sizes rows taken s1 s2 s3 qcode qfuns qsize qrows InvL qmade qgreat qup qdown qwork qxx qpower := by
  obtain ⟨o, ho, hG, hM⟩ := term_read h s1 s2 s3
  unfold it_9
  exact L_term_ok ho hG fun r out' hC => hM _ _ (rq_ok hC fun _ => ⟨n, zs, h⟩)
theorem L_limit_ok {o : Int32 ⊕ Int32} {post : Int32 → Int32 → Int32 → Int32 → (Nat → Int64) → (Nat → Int32) → (Nat → Int32) → (Nat → Int32) → (Nat → Int32) → Prop} (he : ∀ e, o = .inl e → e = 1)
    (hG : ∀ post postx, RG o eI post postx → wp_G_limit made kept sizes p post postx)
    (k : ∀ r out', CRd Int32.toInt64 o r out' → post r made size tooG out' kept sizes rows taken) : wp_L_limit made size tooG out kept sizes rows taken p post := by
  unfold wp_L_limit
  exact hG _ _ (rd1 (conv := Int32.toInt64) (post := fun r out' => post r made size tooG out' kept sizes rows taken) he (by decide) k)
theorem itk_10 (h : InvK n zs made kept sizes qfuns qsize qrows) : it_10 made size tooG out kept sizes rows taken s1 qcode qfuns qsize qrows InvL qmade qgreat qup qdown qwork qxx qpower := by
  obtain ⟨o, ho, hG, hM⟩ := limit_read h s1
  unfold it_10
  exact L_limit_ok ho hG fun r out' hC => hM _ _ (rq_ok hC fun _ => ⟨n, zs, h⟩)
theorem L_value_ok {o : Int32 ⊕ Int32} {post : Int32 → Int32 → Int32 → Int32 → (Nat → Int64) → (Nat → Int32) → (Nat → Int32) → (Nat → Int32) → (Nat → Int32) → Prop} (he : ∀ e, o = .inl e → e = 1 ∨ e = 2 ∨ e = 3)
    (hG : ∀ post postx, RG o eI post postx → wp_G_value made kept sizes p q post postx)
    (k : ∀ r out', CRd Int32.toInt64 o r out' → post r made size tooG out' kept sizes rows taken) : wp_L_value made size tooG out kept sizes rows taken p q post := by
  unfold wp_L_value
  exact hG _ _ (rd3 (conv := Int32.toInt64) (post := fun r out' => post r made size tooG out' kept sizes rows taken) he (by decide) (by decide) (by decide) (by decide) (by decide) (by decide) k)
theorem itk_11 (h : InvK n zs made kept sizes qfuns qsize qrows) : it_11 made size tooG out kept sizes rows taken s1 s2 qcode qfuns qsize qrows InvL qmade qgreat qup qdown qwork qxx qpower := by
  obtain ⟨o, ho, hG, hM⟩ := value_read h s1 s2
  unfold it_11
  exact L_value_ok ho hG fun r out' hC => hM _ _ (rq_ok hC fun _ => ⟨n, zs, h⟩)
theorem L_compare_ok {o : Int32 ⊕ Int32} {post : Int32 → Int32 → Int32 → Int32 → (Nat → Int64) → (Nat → Int32) → (Nat → Int32) → (Nat → Int32) → (Nat → Int32) → Prop} (he : ∀ e, o = .inl e → e = 1)
    (hG : ∀ post postx, RG o eI post postx → wp_G_compare made kept sizes p q post postx)
    (k : ∀ r out', CRd Int32.toInt64 o r out' → post r made size tooG out' kept sizes rows taken) : wp_L_compare made size tooG out kept sizes rows taken p q post := by
  unfold wp_L_compare
  exact hG _ _ (rd1 (conv := Int32.toInt64) (post := fun r out' => post r made size tooG out' kept sizes rows taken) he (by decide) k)
theorem itk_12 (h : InvK n zs made kept sizes qfuns qsize qrows) : it_12 made size tooG out kept sizes rows taken s1 s2 qcode qfuns qsize qrows InvL qmade qgreat qup qdown qwork qxx qpower := by
  obtain ⟨o, ho, hG, hM⟩ := compare_read h s1 s2
  unfold it_12
  exact L_compare_ok ho hG fun r out' hC => hM _ _ (rq_ok hC fun _ => ⟨n, zs, h⟩)
theorem L_ratio_ok {o : Int32 ⊕ Int64} {post : Int32 → Int32 → Int32 → Int32 → (Nat → Int64) → (Nat → Int32) → (Nat → Int32) → (Nat → Int32) → (Nat → Int32) → Prop} (he : ∀ e, o = .inl e → e = 1 ∨ e = 2 ∨ e = 3)
    (hG : ∀ post postx, RG o eI post postx → wp_G_ratio made kept sizes p q r0 post postx)
    (k : ∀ r out', CRd id o r out' → post r made size tooG out' kept sizes rows taken) : wp_L_ratio made size tooG out kept sizes rows taken p q r0 post := by
  unfold wp_L_ratio
  exact hG _ _ (rd3 (conv := id) (post := fun r out' => post r made size tooG out' kept sizes rows taken) he (by decide) (by decide) (by decide) (by decide) (by decide) (by decide) k)
theorem itk_13 (h : InvK n zs made kept sizes qfuns qsize qrows) : it_13 made size tooG out kept sizes rows taken s1 s2 s3 qcode qfuns qup qdown qsize qrows InvL qmade qgreat qwork qxx qpower := by
  obtain ⟨o, ho, hG, hM⟩ := ratio_read h s1 s2 s3
  unfold it_13
  exact L_ratio_ok ho hG fun r out' hC => hM _ _ _ _ (rl_ok hC fun _ _ _ => ⟨n, zs, h⟩)
theorem L_sign_ok {o : Int32 ⊕ Int32} {post : Int32 → Int32 → Int32 → Int32 → (Nat → Int64) → (Nat → Int32) → (Nat → Int32) → (Nat → Int32) → (Nat → Int32) → Prop} (he : ∀ e, o = .inl e → e = 1)
    (hG : ∀ post postx, RG o eI post postx → wp_G_sign made kept sizes p post postx)
    (k : ∀ r out', CRd Int32.toInt64 o r out' → post r made size tooG out' kept sizes rows taken) : wp_L_sign made size tooG out kept sizes rows taken p post := by
  unfold wp_L_sign
  exact hG _ _ (rd1 (conv := Int32.toInt64) (post := fun r out' => post r made size tooG out' kept sizes rows taken) he (by decide) k)
theorem itk_14 (h : InvK n zs made kept sizes qfuns qsize qrows) : it_14 made size tooG out kept sizes rows taken s1 qcode qfuns qsize qrows InvL qmade qgreat qup qdown qwork qxx qpower := by
  obtain ⟨o, ho, hG, hM⟩ := sign_read h s1
  unfold it_14
  exact L_sign_ok ho hG fun r out' hC => hM _ _ (rq_ok hC fun _ => ⟨n, zs, h⟩)
theorem L_same_ok {o : Int32 ⊕ Int32} {post : Int32 → Int32 → Int32 → Int32 → (Nat → Int64) → (Nat → Int32) → (Nat → Int32) → (Nat → Int32) → (Nat → Int32) → Prop} (he : ∀ e, o = .inl e → e = 1)
    (hG : ∀ post postx, RG o eI post postx → wp_G_same made kept sizes p q post postx)
    (k : ∀ r out', CRd c01 o r out' → post r made size tooG out' kept sizes rows taken) : wp_L_same made size tooG out kept sizes rows taken p q post := by
  unfold wp_L_same
  match o, he, hG, k with
  | .inl e, he, hG, k =>
    have := he e rfl
    subst this
    exact hG _ _ ⟨fun _ => k _ _ ⟨rfl, by decide⟩, fun w => absurd rfl w⟩
  | .inr a, he, hG, k => exact hG _ _ ⟨fun w => ⟨pk_in 0 1 (by omega), fun out' e => k _ _ ⟨rfl, by rw [e, cl0, pk_uLs, c01, if_pos w]⟩⟩, fun w => ⟨pk_in 0 1 (by omega), fun out' e => k _ _ ⟨rfl, by rw [e, cl0, pk_uLs, c01, if_neg w]⟩⟩⟩
theorem itk_15 (h : InvK n zs made kept sizes qfuns qsize qrows) : it_15 made size tooG out kept sizes rows taken s1 s2 qcode qfuns qsize qrows InvL qmade qgreat qup qdown qwork qxx qpower := by
  obtain ⟨o, ho, hG, hM⟩ := same_read h s1 s2
  unfold it_15
  refine L_same_ok ho hG fun r out' hC => hM _ _ ?_
  have N : ∀ c : Int32, InvL made size tooG c qfuns qmade qgreat qup qdown out' kept sizes rows taken qsize qrows qwork qxx qpower := fun _ => ⟨n, zs, h⟩
  match o, hC with
  | .inl e, hC =>
    intro b
    unfold wp_M_thrown
    exact ⟨fun _ => ⟨fun _ => N _, fun w => absurd (hC.1.symm.trans w) hC.2⟩, fun w => absurd hC.1.symm w⟩
  | .inr a, hC =>
    unfold RQ
    dsimp only
    unfold wp_M_thrown
    have h2 := hC.2
    refine ⟨fun _ => ⟨fun _ => N _, fun _ => ⟨pk_in 0 1 (by omega), fun w => ⟨fun _ => N _, fun w2 => w2 ?_⟩, fun w => ⟨fun _ => N _, fun w2 => w2 ?_⟩⟩⟩, fun w => absurd hC.1.symm w⟩
    · rw [lg_cmp_eq, cl0, h2, c01, if_pos w]
    · rw [lg_cmp_eq, cl0, h2, c01, if_neg w]
theorem L_fastest_ok {o : Int32 ⊕ Int32} {post : Int32 → Int32 → Int32 → Int32 → (Nat → Int64) → (Nat → Int32) → (Nat → Int32) → (Nat → Int32) → (Nat → Int32) → Prop} (he : ∀ e, o = .inl e → e = 1)
    (hG : ∀ post postx, RG o eF post postx → wp_G_fastest made kept sizes p post postx)
    (k : ∀ r out', CRd Int32.toInt64 o r out' → post r made size tooG out' kept sizes rows taken) : wp_L_fastest made size tooG out kept sizes rows taken p post := by
  unfold wp_L_fastest
  exact hG _ _ (rd1 (conv := Int32.toInt64) (post := fun r out' => post r made size tooG out' kept sizes rows taken) he (by decide) k)
theorem itk_16 (h : InvK n zs made kept sizes qfuns qsize qrows) : it_16 made size tooG out kept sizes rows taken s1 qcode qfuns qsize qrows InvL qmade qgreat qup qdown qwork qxx qpower := by
  obtain ⟨o, ho, hG, hM⟩ := fastest_read h s1
  unfold it_16
  exact L_fastest_ok ho hG fun r out' hC => hM _ _ (rq_ok hC fun _ => ⟨n, zs, h⟩)
theorem itk_17 (h : InvK n zs made kept sizes qfuns qsize qrows) : it_17 made qcode qfuns InvL size tooG qmade qgreat qup qdown out kept sizes rows taken qsize qrows qwork qxx qpower := by
  unfold it_17 wp_G_count wp_M_count
  exact ⟨fun _ => ⟨n, zs, h⟩, fun w => w (h.2.1.trans h.2.2.1.symm)⟩
end It
