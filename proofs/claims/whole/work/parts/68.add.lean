/-! CALLS THAT MAKE A FUNCTION: from outcomes to the law's check; add. -/
theorem tail_ok {code r : Int32} {x b : Int64} {N : Prop} (h1 : code = r) (h2 : r = 0 → x = b) (h : N) : wp_M_thrown code (fun t => (t = r → ((¬ r = 0 → N) ∧ (r = 0 → (vp_in 0 1 ∧ ((lg_cmp x b = 0 → N) ∧ (¬ lg_cmp x b = 0 → False)))))) ∧ (¬ t = r → False)) := by
  unfold wp_M_thrown
  refine ⟨fun _ => ⟨fun _ => h, fun w => ⟨pk_in 0 1 (by omega), fun _ => h, fun w2 => w2 ((lg_cmp_eq _ _).mpr (h2 w))⟩⟩, fun w => w h1⟩
def GOK (o : Oc) (n : Nat) (made : Int32) (kept sizes : Nat → Int32) (E1 : String) (P : Int32 → Int32 → (Nat → Int32) → (Nat → Int32) → Prop) (X : String → Prop) : Prop := match o with
  | .inl e => X (if e = 1 then E1 else "java/lang/IllegalStateException")
  | .inr none => P (-1) made kept sizes
  | .inr (some s) => (refu s → X "java/lang/IllegalStateException") ∧ ∀ (z : Nat) (f kept' : Nat → Int32), s = some (z, f) → z ≤ 10 → wfs f z → kpt n z f kept kept' → P (nI n) (nI (n + 1)) kept' (upd sizes n (nI z))
theorem mkL {o : Oc} {n : Nat} {made : Int32} {kept sizes : Nat → Int32} {out : Nat → Int64} {E1 : String} {post : Int32 → Int32 → Int32 → Int32 → (Nat → Int64) → (Nat → Int32) → (Nat → Int32) → (Nat → Int32) → (Nat → Int32) → Prop} (he : ∀ e, o = .inl e → e = 1 ∨ e = 2) (hE : E1 ≠ "java/lang/IllegalStateException")
    (k : ∀ r made' kept' sizes' out' a b c d, CR o n made kept sizes r made' kept' sizes' out' → post r made' a b out' kept' sizes' c d) :
    GOK o n made kept sizes E1 (fun r m k z => ∀ a b c d, vp_in 0 1 ∧ ∀ out' : Nat → Int64, out' = vp_updL out (0 : Int32).toNatClampNeg r.toInt64 → post 0 m a b out' k z c d)
      (fun E => ∀ a b c d, (E = E1 → post 1 made a b out kept sizes c d) ∧ (¬ E = E1 → ((E = "java/lang/IllegalStateException" → post 2 made a b out kept sizes c d) ∧ (¬ E = "java/lang/IllegalStateException" → False)))) := by
  have c0 : (0 : Int32).toNatClampNeg = 0 := by decide
  match o, he, k with
  | .inl e, he, k =>
    show ∀ a b c d, _
    intro a b c d
    rcases he e rfl with q | q
    · subst q
      rw [if_pos rfl]
      exact ⟨fun _ => k _ _ _ _ _ _ _ _ _ ⟨by decide, rfl, rfl, rfl, rfl⟩, fun w => absurd rfl w⟩
    · subst q
      rw [if_neg (by decide)]
      exact ⟨fun w => absurd w.symm hE, fun _ => ⟨fun _ => k _ _ _ _ _ _ _ _ _ ⟨by decide, rfl, rfl, rfl, rfl⟩, fun w => absurd rfl w⟩⟩
  | .inr none, he, k =>
    show ∀ a b c d, _
    intro a b c d
    refine ⟨pk_in 0 1 (by omega), fun out' e => k _ _ _ _ _ _ _ _ _ ⟨rfl, ?_, rfl, rfl, rfl⟩⟩
    rw [e, c0, pk_uLs]; decide
  | .inr (some s), he, k =>
    refine ⟨fun h a b c d => ⟨fun w => absurd w.symm hE, fun _ => ⟨fun _ => k _ _ _ _ _ _ _ _ _ (Or.inl ⟨h, rfl, rfl, rfl, rfl⟩), fun w => absurd rfl w⟩⟩, fun z f kept' h1 h2 h3 h4 a b c d => ⟨pk_in 0 1 (by omega), fun out' e => k _ _ _ _ _ _ _ _ _ (Or.inr ⟨z, f, h1, h2, h3, rfl, ?_, rfl, h4, rfl⟩)⟩⟩
    rw [e, c0, pk_uLs]
def rowT (kept : Nat → Int32) (f i : Nat) : Nat → Int32 := fun j => kept (70 * f + 7 * i + j)
def foldP (g : Nat → Option (Nat → Int32)) : Nat → Sst → Sst
  | 0, s => s
  | n + 1, s => putS (foldP g n s) (g n)
/-- no sum yet -/
def s0 : Sst := some (0, fun _ => 0)
theorem wfs_0 (f : Nat → Int32) : wfs f 0 := ⟨fun i j _ h => absurd h (Nat.not_lt_zero j), fun i h => absurd h (Nat.not_lt_zero i)⟩
theorem RC_0 (rows : Nat → Int32) : RC s0 0 0 0 rows := ⟨0, nI_0.symm, by omega, wfs_0 _, Or.inr ⟨_, rfl, rfl, fun j h => absurd h (by omega)⟩⟩
theorem RM_0 (work : Nat → Int32) : RM s0 0 0 0 work := Or.inr ⟨0, _, rfl, by omega, wfs_0 _, nI_0.symm, rfl, fun j h => absurd h (by omega)⟩
theorem G_rowOf_ok {f i : Nat} {post : Int32 → Prop} (k : post (nI (70 * f + 7 * i))) : wp_G_rowOf (nI f) (nI i) post := by
  unfold wp_G_rowOf
  have e1 : (nI f * 10 + nI i) * 7 = nI (70 * f + 7 * i) := by
    rw [show nI f * 10 = nI (f * 10) from pk_mul f 10, nI_add, show (nI (f * 10 + i)) * 7 = nI ((f * 10 + i) * 7) from pk_mul _ 7]; congr 1; omega
  rw [e1]; exact k
theorem W_take_ok {kept taken : Nat → Int32} {b : Nat} {post : (Nat → Int32) → Prop} (hb : b + 7 ≤ 5600) (k : ∀ taken', eqp 7 taken' (fun j => kept (b + j)) → post taken') : wp_W_take kept taken (nI b) post := by
  unfold wp_W_take
  have c7 : (7 : Int32).toNatClampNeg = 7 := by decide
  have c0 : (0 : Int32).toNatClampNeg = 0 := by decide
  rw [c7, c0, nI_clamp (by omega)]
  refine ⟨⟨nI_pos (by omega), by decide, by decide, by omega, by omega⟩, fun t e => k t fun j hj => ?_⟩
  rw [e, pk_cpy_in (by omega) (by omega)]; rfl
theorem M_at_ok {rows : Nat → Int32} {f i j : Nat} {post : Int32 → Prop} (h : 70 * f + 7 * i + j < 5600) (k : post (rows (70 * f + 7 * i + j))) : wp_M_at rows (nI f) (nI i) (nI j) post := by
  unfold wp_M_at
  have e : (70 : Int32) * nI f + 7 * nI i + nI j = nI (70 * f + 7 * i + j) := by
    rw [show (70 : Int32) * nI f = nI (70 * f) from pk_mul 70 f, show (7 : Int32) * nI i = nI (7 * i) from pk_mul 7 i, nI_add, nI_add]
  rw [e, nI_clamp (by omega)]
  exact ⟨vp_in_nI h (by omega), k⟩
theorem seven_le {e : Nat} (h : e ≤ 7) : (7 : Int32) ≤ nI e ↔ 7 ≤ e := by
  have : (7 : Int32) = nI 7 := rfl
  rw [this]; exact nI_leI (by omega) (by omega)
theorem M_load_ok {rows xx : Nat → Int32} {f i : Nat} {post : (Nat → Int32) → Prop} (h : 70 * f + 7 * i + 7 ≤ 5600) (k : ∀ xx', eqp 7 xx' (fun j => rows (70 * f + 7 * i + j)) → post xx') : wp_M_load rows xx (nI f) (nI i) post := by
  unfold wp_M_load
  refine lpW2_ex _ (fun v x => ∃ e : Nat, v = nI e ∧ e ≤ 7 ∧ ∀ j, j < e → x j = rows (70 * f + 7 * i + j)) (fun v _ => 7 - v.toNatClampNeg) ?_ _ _ ⟨0, nI_0.symm, by omega, fun j hj => absurd hj (Nat.not_lt_zero j)⟩
  rintro ih v x ⟨e, rfl, he, g⟩ hs
  unfold wb_M_load_2
  rw [seven_le he]
  refine ⟨fun c => k x fun j hj => g j (by omega), fun c => M_at_ok (by omega) ⟨vp_in_nI (by omega) (by omega), fun x7 e7 x8 e8 => ?_⟩⟩
  rw [nI_1] at e8
  rw [nI_clamp (by omega)] at e7
  refine hs _ _ ⟨e + 1, e8, by omega, fun j hj => ?_⟩ ?_
  · rw [e7]
    by_cases w : j = e
    · rw [w, pk_us]
    · rw [pk_un w]; exact g j (by omega)
  · show 7 - x8.toNatClampNeg < 7 - (nI e).toNatClampNeg
    rw [e8, nI_clamp (by omega), nI_clamp (by omega)]; omega
section Add
variable {n : Nat} {zs : Nat → Nat} {made funs : Int32} {kept sizes qsize qrows : Nat → Int32}
theorem Inv_row (h : InvK n zs made kept sizes funs qsize qrows) {f i : Nat} (hf : f < n) (hi : i < zs f) : wfr (rowT kept f i) 0 ∧ 70 * f + 7 * i + 7 ≤ 5600 ∧ eqp 7 (fun j => qrows (70 * f + 7 * i + j)) (rowT kept f i) := by
  have hn := h.1
  obtain ⟨a1, a2, a3, a4, a5⟩ := h.2.2.2 f hf
  refine ⟨wfr_congr (fun j hj => ?_) (a5.2 i hi), by omega, fun j hj => ?_⟩
  · show kept (70 * f + (7 * i + j)) = kept (70 * f + 7 * i + (0 + j))
    congr 1; omega
  · show qrows (70 * f + 7 * i + j) = kept (70 * f + 7 * i + j)
    rw [show 70 * f + 7 * i + j = 70 * f + (7 * i + j) by omega]; exact (a4 _ (by omega)).symm
theorem G_putAll_ok (h : InvK n zs made kept sizes funs qsize qrows) {f c : Nat} (hf : f < n) {s : Sst} {size tooG : Int32} {rows taken : Nat → Int32} {post : Int32 → Int32 → (Nat → Int32) → (Nat → Int32) → Prop} (hr : RC s c size tooG rows) (hc : c + zs f ≤ 100)
    (k : ∀ size' tooG' rows' taken', RC (foldP (fun i => some (rowT kept f i)) (zs f) s) (c + zs f) size' tooG' rows' → post size' tooG' rows' taken') : wp_G_putAll size tooG kept sizes rows taken (nI f) post := by
  have hn := h.1
  obtain ⟨a1, a2, a3, a4, a5⟩ := h.2.2.2 f hf
  unfold wp_G_putAll
  refine lpW5_ex _ (fun v sz tg rw_ _ => ∃ i : Nat, v = nI i ∧ i ≤ zs f ∧ RC (foldP (fun i => some (rowT kept f i)) i s) (c + i) sz tg rw_) (fun v _ _ _ _ => zs f - v.toNatClampNeg) ?_ _ _ _ _ _ ⟨0, nI_0.symm, by omega, hr⟩
  rintro ih v sz tg rw_ tk ⟨i, rfl, hi, hR⟩ hs
  unfold wb_G_putAll_2
  rw [nI_clamp (by omega), a2, nI_leI (by omega) (by omega)]
  refine ⟨vp_in_nI (by omega) (by omega), fun q => ?_, fun q => G_rowOf_ok ?_⟩
  · have : i = zs f := by omega
    subst this; exact k _ _ _ _ hR
  · obtain ⟨w1, w2, -⟩ := Inv_row h hf (show i < zs f by omega)
    refine W_take_ok w2 fun t ht => RC_put hR (by omega) (wfr_congr (fun j hj => by rw [Nat.zero_add]; exact (ht j hj).symm) w1) (Or.inr ⟨rowT kept f i, rfl, rfl, ht⟩) fun sz' tg' rw' hR' x ex => ?_
    rw [nI_1] at ex
    refine hs _ _ _ _ _ ⟨i + 1, ex, by omega, hR'⟩ ?_
    show zs f - x.toNatClampNeg < zs f - (nI i).toNatClampNeg
    rw [ex, nI_clamp (by omega), nI_clamp (by omega)]; omega
/-- what a call of add comes to -/
theorem add_pair (h : InvK n zs made kept sizes funs qsize qrows) (p q : Int32) : ∃ o : Oc, (∀ s, o = .inr (some s) → n < 80) ∧ (∀ e, o = .inl e → e = 1 ∨ e = 2) ∧
    (∀ size tooG rows taken post postx, GOK o n made kept sizes "java/lang/IndexOutOfBoundsException" (fun r m k z => ∀ a b c d, post r m a b k z c d) (fun E => ∀ a b c d, postx E made a b kept sizes c d) → wp_G_add made size tooG kept sizes rows taken p q post postx) ∧
    (∀ code qmade great up down work xx post, (∀ b code' funs' qmade' great' up' down' size' rows' work' xx', MR o n funs qsize qrows b code' funs' size' rows' → post b code' funs' qmade' great' up' down' size' rows' work' xx') → wp_M_add code funs qmade great up down qsize qrows work xx p q post) := by
  have hn := h.1
  have hm := h.2.1
  have hfn := h.2.2.1
  by_cases hp : isH p n ∧ isH q n
  · rcases Nat.lt_or_ge n 80 with h80 | h80
    · obtain ⟨⟨f, hf, rfl⟩, ⟨g, hg, rfl⟩⟩ := hp
      obtain ⟨a1, a2, a3, a4, a5⟩ := h.2.2.2 f hf
      obtain ⟨b1, b2, b3, b4, b5⟩ := h.2.2.2 g hg
      refine ⟨.inr (some (foldP (fun i => some (rowT kept g i)) (zs g) (foldP (fun i => some (rowT kept f i)) (zs f) s0))), fun _ _ => h80, fun e q => (by cases q), ?_, ?_⟩
      · intro size tooG rows taken post postx hk
        unfold wp_G_add
        refine G_reqF_ok hn hm (fun _ => G_reqF_ok hn hm (fun _ => G_reqR_ok hn hm (fun _ => ?_) (fun w => absurd w (by omega))) (fun w => absurd ⟨g, hg, rfl⟩ w)) (fun w => absurd ⟨f, hf, rfl⟩ w)
        unfold wp_W_begin
        refine G_putAll_ok h hf (RC_0 rows) (by omega) fun s1 t1 r1 k1 hR1 => G_putAll_ok h hg hR1 (by omega) fun s2 t2 r2 k2 hR2 => G_keep_ok hR2 (by omega) h80 hm (fun w => hk.1 w _ _ _ _) (fun z f' kept' w1 w2 w3 w4 => hk.2 z f' kept' w1 w2 w3 w4 _ _ _ _)
      · intro code qmade great up down work xx post hk
        unfold wp_M_add
        refine M_may_ok hn hfn (fun w => absurd ⟨⟨f, hf, rfl⟩, ⟨g, hg, rfl⟩⟩ w) (fun _ _ w => absurd w (by omega)) (fun _ _ _ => ⟨fun _ => ?_, fun w => absurd w (by decide)⟩)
        unfold wp_M_start
        refine lpW7_ex _ (fun v mk gr _ _ wk _ => ∃ i : Nat, v = nI i ∧ i ≤ zs f ∧ RM (foldP (fun i => some (rowT kept f i)) i s0) i mk gr wk) (fun v _ _ _ _ _ _ => zs f - v.toNatClampNeg) ?_ _ _ _ _ _ _ _ ⟨0, nI_0.symm, by omega, RM_0 work⟩
        rintro ih v mk gr u1 d1 wk x1 ⟨i, rfl, hi, hR⟩ hs
        unfold wb_M_add_17
        rw [nI_clamp (by omega), a3, nI_leI (by omega) (by omega)]
        refine ⟨vp_in_nI (by omega) (by omega), fun w => ?_, fun w => ?_⟩
        · have : i = zs f := by omega
          subst this
          refine lpW7_ex _ (fun v mk gr _ _ wk _ => ∃ i : Nat, v = nI i ∧ i ≤ zs g ∧ RM (foldP (fun i => some (rowT kept g i)) i (foldP (fun i => some (rowT kept f i)) (zs f) s0)) (zs f + i) mk gr wk) (fun v _ _ _ _ _ _ => zs g - v.toNatClampNeg) ?_ _ _ _ _ _ _ _ ⟨0, nI_0.symm, by omega, hR⟩
          rintro ih2 v mk gr u1 d1 wk x1 ⟨i, rfl, hi2, hR2⟩ hs2
          unfold wb_M_add_45
          rw [nI_clamp (by omega), b3, nI_leI (by omega) (by omega)]
          refine ⟨vp_in_nI (by omega) (by omega), fun w2 => ?_, fun w2 => ?_⟩
          · have : i = zs g := by omega
            subst this
            exact M_keep_ok hR2 (by omega) h80 hfn (fun w3 => hk _ _ _ _ _ _ _ _ _ _ _ (Or.inl ⟨w3, rfl, rfl, rfl, rfl⟩)) (fun z f' rows' w3 w4 w5 w6 => hk _ _ _ _ _ _ _ _ _ _ _ (Or.inr ⟨z, f', w3, w4, w5, rfl, rfl, rfl, w6, rfl⟩))
          · obtain ⟨y1, y2, y3⟩ := Inv_row h hg (show i < zs g by omega)
            refine M_load_ok y2 fun xx' hx => RM_put hR2 (by omega) (Or.inr ⟨rowT kept g i, rfl, rfl, y1, eqp_trans hx y3⟩) fun m' g' u' d' w' hR' x ex => ?_
            rw [nI_1] at ex
            refine hs2 _ _ _ _ _ _ _ ⟨i + 1, ex, by omega, hR'⟩ ?_
            show zs g - x.toNatClampNeg < zs g - (nI i).toNatClampNeg
            rw [ex, nI_clamp (by omega), nI_clamp (by omega)]; omega
        · obtain ⟨y1, y2, y3⟩ := Inv_row h hf (show i < zs f by omega)
          refine M_load_ok y2 fun xx' hx => RM_put hR (by omega) (Or.inr ⟨rowT kept f i, rfl, rfl, y1, eqp_trans hx y3⟩) fun m' g' u' d' w' hR' x ex => ?_
          rw [nI_1] at ex
          refine hs _ _ _ _ _ _ _ ⟨i + 1, ex, by omega, hR'⟩ ?_
          show zs f - x.toNatClampNeg < zs f - (nI i).toNatClampNeg
          rw [ex, nI_clamp (by omega), nI_clamp (by omega)]; omega
    · refine ⟨.inl 2, fun s q => (by cases q), fun e q => (by cases q; exact Or.inr rfl), ?_, ?_⟩
      · intro size tooG rows taken post postx hk
        unfold wp_G_add
        refine G_reqF_ok hn hm (fun _ => G_reqF_ok hn hm (fun _ => G_reqR_ok hn hm (fun w => absurd w (by omega)) (fun _ => hk _ _ _ _)) (fun w => absurd hp.2 w)) (fun w => absurd hp.1 w)
      · intro code qmade great up down work xx post hk
        unfold wp_M_add
        exact M_may_ok hn hfn (fun w => absurd hp w) (fun _ _ _ => ⟨fun w => absurd rfl w, fun _ => hk _ _ _ _ _ _ _ _ _ _ _ ⟨rfl, rfl, rfl, rfl⟩⟩) (fun _ _ w => absurd w (by omega))
  · refine ⟨.inl 1, fun s q => (by cases q), fun e q => (by cases q; exact Or.inl rfl), ?_, ?_⟩
    · intro size tooG rows taken post postx hk
      unfold wp_G_add
      exact G_reqF_ok hn hm (fun w1 => G_reqF_ok hn hm (fun w2 => absurd ⟨w1, w2⟩ hp) (fun _ => hk _ _ _ _)) (fun _ => hk _ _ _ _)
    · intro code qmade great up down work xx post hk
      unfold wp_M_add
      exact M_may_ok hn hfn (fun _ => ⟨fun w => absurd rfl w, fun _ => hk _ _ _ _ _ _ _ _ _ _ _ ⟨rfl, rfl, rfl, rfl⟩⟩) (fun w1 w2 _ => absurd ⟨w1, w2⟩ hp) (fun w1 w2 _ => absurd ⟨w1, w2⟩ hp)
end Add
