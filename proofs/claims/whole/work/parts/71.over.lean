/-! over, on both sides. -/
section Ov
variable {n : Nat} {zs : Nat → Nat} {made funs : Int32} {kept sizes qsize qrows : Nat → Int32}
theorem nI1 {z : Nat} (hz : z ≤ 10) : nI z = 1 ↔ z = 1 := by
  have : (1 : Int32) = nI 1 := rfl
  rw [this]; exact nI_eq (by omega) (by omega)
def gO (kept : Nat → Int32) (f g : Nat) : Nat → Option (Nat → Int32) := fun i => mkT (rowT kept f i) (rowT kept g 0 6).toInt (rowT kept g 0 5).toInt (fun e => -(rowT kept g 0 e).toInt)
theorem M_over_loop {rows xx : Nat → Int32} {g : Nat} {up down : Int64} {mk : Int32} {wk : Nat → Int32} {v3 : Int32} {ih : Int32 → Int32 → Int32 → Int64 → Int64 → (Nat → Int32) → (Nat → Int32) → Prop} {t u : Nat → Int32} (h2 : 70 * g + 7 * 0 + 7 ≤ 5600) (ht : wfr t 0) (hu : wfr u 0) (et : eqp 7 xx t) (eu : eqp 7 (fun j => rows (70 * g + 7 * 0 + j)) u)
    (k : ∀ gr u' d' xx', ((mkT t (u 6).toInt (u 5).toInt (fun j => -(u j).toInt) = none ∧ (gr = 1 ∨ (gr = 0 ∧ ∃ j, j < 5 ∧ ¬ wfe (xx' j)))) ∨ ∃ t', mkT t (u 6).toInt (u 5).toInt (fun j => -(u j).toInt) = some t' ∧ gr = 0 ∧ wfr t' 0 ∧ eqp 7 xx' t') →
      wp_M_put mk gr u' d' wk xx' (fun made_52 great_53 up_54 down_55 work_56 => ∀ x57 : Int32, x57 = v3 + 1 → ih x57 made_52 great_53 up_54 down_55 work_56 xx')) : ∃ n : Nat, lpW2 (wb_M_over_55 rows (nI g) 0 up down mk wk v3 ih) n (0 : Int32) xx := by
  obtain ⟨w1, w2, w3, w4, w5⟩ := wfr0 ht
  obtain ⟨v1, v2, v3', v4, v5⟩ := wfr0 hu
  refine lpW2_ex _ (fun v x => ∃ e : Nat, v = nI e ∧ e ≤ 5 ∧ (∀ j, j < e → (x j).toInt = (t j).toInt + -(u j).toInt) ∧ ∀ j, e ≤ j → j < 7 → x j = t j) (fun v _ => 5 - v.toNatClampNeg) ?_ _ _ ⟨0, nI_0.symm, by omega, fun j hj => absurd hj (Nat.not_lt_zero j), fun j _ hj => et j hj⟩
  rintro ih2 v x ⟨e, rfl, he, g1, g2⟩ hs
  unfold wb_M_over_55
  rw [five_le he]
  have eu' : ∀ j, j < 7 → rows (70 * g + 7 * 0 + j) = u j := eu
  refine ⟨fun c => ?_, fun c => ⟨vp_in_nI (by omega) (by omega), M_at_ok (i := 0) (by omega) ⟨vp_in_nI (by omega) (by omega), fun x19 e19 x20 e20 => ?_⟩⟩⟩
  · have : e = 5 := by omega
    subst this
    have x5 := g2 5 (by omega) (by omega)
    have x6 := g2 6 (by omega) (by omega)
    refine M_at_ok (i := 0) (j := 5) (by omega) fun x39 e39 => M_at_ok (i := 0) (j := 6) (by omega) fun x42 e42 => ?_
    rw [eu' 5 (by omega)] at e39
    rw [eu' 6 (by omega)] at e42
    have t39 : x39.toInt = (u 5).toInt := by rw [e39, l_of_i]
    have t42 : x42.toInt = (u 6).toInt := by rw [e42, l_of_i]
    rw [lg_cmp_ge, Int64.le_iff_toInt_le, l_0, t39]
    have nb : (lN x39.toInt.natAbs).toInt = ((u 5).toInt.natAbs : Int) := by rw [pk_lT (by omega), t39]
    refine ⟨fun c2 => ?_, fun c2 => ?_⟩
    · unfold wj_M_over_122
      refine M_size_ok (by omega) ?_
      have nb2 : (lN x39.toInt.natAbs).toInt = (u 5).toInt := by rw [nb]; omega
      obtain ⟨m1, m2⟩ := mkT_rel (a := (u 6).toInt) (b := (u 5).toInt) (dl := fun j => -(u j).toInt) ht g1 x5 x6 (by omega) v2
      refine M_scale_ok (by rw [x5]; exact w2) (by rw [x5]; exact w3) (by rw [x6]; exact w4) (by rw [x6]; exact w5) (by rw [t42]; omega) (by rw [nb2]; exact v3') (by rw [nb2]; exact v2) ?_ ?_
      · rw [x5, x6, t42, nb2]
        intro c3 u' d' xx2
        exact k _ _ _ _ (Or.inl ⟨m1 c3, Or.inl rfl⟩)
      · rw [x5, x6, t42, nb2]
        intro c3 u' d'
        rcases m2 c3 _ rfl with ⟨q1, q2⟩ | ⟨t', q1, q2, q3⟩
        · exact k _ _ _ _ (Or.inl ⟨q1, Or.inr ⟨rfl, q2⟩⟩)
        · exact k _ _ _ _ (Or.inr ⟨t', q1, rfl, q2, q3⟩)
    · unfold wj_M_over_122_2
      refine M_size_ok (by omega) ?_
      have nb2 : (lN x39.toInt.natAbs).toInt = -(u 5).toInt := by rw [nb]; omega
      have t42' : (-x42).toInt = -(u 6).toInt := by rw [l_neg (by omega), t42]
      obtain ⟨m1, m2⟩ := mkT_rel (a := -(u 6).toInt) (b := -(u 5).toInt) (dl := fun j => -(u j).toInt) ht g1 x5 x6 (by omega) (by omega)
      rw [mkT_neg (by omega) v2] at m1 m2
      refine M_scale_ok (by rw [x5]; exact w2) (by rw [x5]; exact w3) (by rw [x6]; exact w4) (by rw [x6]; exact w5) (by rw [t42']; omega) (by rw [nb2]; omega) (by rw [nb2]; omega) ?_ ?_
      · rw [x5, x6, t42', nb2]
        intro c3 u' d' xx2
        exact k _ _ _ _ (Or.inl ⟨m1 c3, Or.inl rfl⟩)
      · rw [x5, x6, t42', nb2]
        intro c3 u' d'
        rcases m2 c3 _ rfl with ⟨q1, q2⟩ | ⟨t', q1, q2, q3⟩
        · exact k _ _ _ _ (Or.inl ⟨q1, Or.inr ⟨rfl, q2⟩⟩)
        · exact k _ _ _ _ (Or.inr ⟨t', q1, rfl, q2, q3⟩)
  · rw [nI_1] at e20
    rw [nI_clamp (by omega)] at e19
    have b1 := w1 e (by omega)
    have b2 := v1 e (by omega)
    unfold wfe at b1 b2
    refine hs _ _ ⟨e + 1, e20, by omega, fun j hj => ?_, fun j hj1 hj2 => ?_⟩ ?_
    · rw [e19]
      by_cases w : j = e
      · rw [w, pk_us, eu' e (by omega), i_sub (by rw [g2 e (by omega) (by omega)]; omega) (by rw [g2 e (by omega) (by omega)]; omega), g2 e (by omega) (by omega)]; omega
      · rw [pk_un w]; exact g1 j (by omega)
    · rw [e19, pk_un (by omega)]; exact g2 j (by omega) hj2
    · show 5 - x20.toNatClampNeg < 5 - (nI e).toNatClampNeg
      rw [e20, nI_clamp (by omega), nI_clamp (by omega)]; omega
theorem over_pair (h : InvK n zs made kept sizes funs qsize qrows) (p q : Int32) : ∃ o : Oc, (∀ s, o = .inr (some s) → n < 80) ∧ (∀ e, o = .inl e → e = 1 ∨ e = 2) ∧
    (∀ size tooG rows taken post postx, GOK o n made kept sizes "java/lang/IndexOutOfBoundsException" (fun r m k z => ∀ a b c d, post r m a b k z c d) (fun E => ∀ a b c d, postx E made a b kept sizes c d) → wp_G_over made size tooG kept sizes rows taken p q post postx) ∧
    (∀ code qmade great up down work xx post, (∀ b code' funs' qmade' great' up' down' size' rows' work' xx', MR o n funs qsize qrows b code' funs' size' rows' → post b code' funs' qmade' great' up' down' size' rows' work' xx') → wp_M_over code funs qmade great up down qsize qrows work xx p q post) := by
  have hn := h.1
  have hm := h.2.1
  have hfn := h.2.2.1
  by_cases hp : isH p n ∧ isH q n
  · rcases Nat.lt_or_ge n 80 with h80 | h80
    · obtain ⟨⟨f, hf, rfl⟩, ⟨g, hg, rfl⟩⟩ := hp
      obtain ⟨a1, a2, a3, a4, a5⟩ := h.2.2.2 f hf
      obtain ⟨b1, b2, b3, b4, b5⟩ := h.2.2.2 g hg
      by_cases h1 : zs g = 1
      · obtain ⟨x1, x2, x3⟩ := Inv_row h hg (show 0 < zs g by omega)
        refine ⟨.inr (some (foldP (gO kept f g) (zs f) s0)), fun _ _ => h80, fun e q => (by cases q), ?_, ?_⟩
        · intro size tooG rows taken post postx hk
          unfold wp_G_over
          refine G_reqF_ok hn hm (fun _ => G_reqF_ok hn hm (fun _ => G_reqR_ok hn hm (fun _ => ⟨vp_in_nI (by omega) (by omega), ?_⟩) (fun w => absurd w (by omega))) (fun w => absurd ⟨g, hg, rfl⟩ w)) (fun w => absurd ⟨f, hf, rfl⟩ w)
          rw [nI_clamp (by omega), b2, nI1 b1]
          refine ⟨fun _ => ?_, fun w => absurd h1 w⟩
          unfold wp_W_begin
          refine lpW5_ex _ (fun v sz tg rw_ _ => ∃ i : Nat, v = nI i ∧ i ≤ zs f ∧ RC (foldP (gO kept f g) i s0) i sz tg rw_) (fun v _ _ _ _ => zs f - v.toNatClampNeg) ?_ _ _ _ _ _ ⟨0, nI_0.symm, by omega, RC_0 rows⟩
          rintro ih v sz tg rw_ tk ⟨i, rfl, hi, hR⟩ hs
          unfold wb_G_over_35
          rw [nI_clamp (by omega), a2, nI_leI (by omega) (by omega)]
          refine ⟨vp_in_nI (by omega) (by omega), fun w => ?_, fun w => G_rowOf_ok ?_⟩
          · have : i = zs f := by omega
            subst this
            exact G_keep_ok hR (by omega) h80 hm (fun w => hk.1 w _ _ _ _) (fun z f' kept' w1 w2 w3 w4 => hk.2 z f' kept' w1 w2 w3 w4 _ _ _ _)
          · obtain ⟨y1, y2, -⟩ := Inv_row h hf (show i < zs f by omega)
            refine W_take_ok y2 fun t ht => G_rowOf_ok (i := 0) ?_
            have hwt : wfr t 0 := wfr_congr (fun e he => by rw [Nat.zero_add]; exact (ht e he).symm) y1
            refine W_divTerm_ok x2 (wfr_congr (fun e he => by rw [Nat.zero_add]; rfl) x1) ⟨hwt, Or.inr ⟨rowT kept f i, rfl, rfl, ht⟩⟩ fun tg1 tk1 hT => RC_put hR (by omega) hT.1 hT.2 fun sz' tg' rw' hR' x ex => ?_
            rw [nI_1] at ex
            refine hs _ _ _ _ _ ⟨i + 1, ex, by omega, hR'⟩ ?_
            show zs f - x.toNatClampNeg < zs f - (nI i).toNatClampNeg
            rw [ex, nI_clamp (by omega), nI_clamp (by omega)]; omega
        · intro code qmade great up down work xx post hk
          unfold wp_M_over
          refine M_may_ok hn hfn (fun w => absurd ⟨⟨f, hf, rfl⟩, ⟨g, hg, rfl⟩⟩ w) (fun _ _ w => absurd w (by omega)) (fun _ _ _ => ⟨fun _ => ⟨vp_in_nI (by omega) (by omega), ?_⟩, fun w => absurd w (by decide)⟩)
          rw [nI_clamp (by omega), b3, nI1 b1]
          refine ⟨fun _ => ?_, fun w => absurd h1 w⟩
          unfold wp_M_start
          refine lpW7_ex _ (fun v mk gr _ _ wk _ => ∃ i : Nat, v = nI i ∧ i ≤ zs f ∧ RM (foldP (gO kept f g) i s0) i mk gr wk) (fun v _ _ _ _ _ _ => zs f - v.toNatClampNeg) ?_ _ _ _ _ _ _ _ ⟨0, nI_0.symm, by omega, RM_0 work⟩
          rintro ih v mk gr u1 d1 wk x1' ⟨i, rfl, hi, hR⟩ hs
          unfold wb_M_over_29
          have fin : RM (foldP (gO kept f g) (zs f) s0) (zs f) mk gr wk → wj_M_over_140 0 funs mk gr qsize qrows wk post u1 d1 x1' := by
            intro hF
            unfold wj_M_over_140
            exact M_keep_ok hF (by omega) h80 hfn (fun w3 => hk _ _ _ _ _ _ _ _ _ _ _ (Or.inl ⟨w3, rfl, rfl, rfl, rfl⟩)) (fun z f' rows' w3 w4 w5 w6 => hk _ _ _ _ _ _ _ _ _ _ _ (Or.inr ⟨z, f', w3, w4, w5, rfl, rfl, rfl, w6, rfl⟩))
          rw [nI_clamp (by omega), a3, nI_leI (by omega) (by omega)]
          refine ⟨vp_in_nI (by omega) (by omega), fun w => fin ?_, fun w => ⟨fun w3 => ?_, fun w3 => ?_⟩⟩
          · have : i = zs f := by omega
            subst this; exact hR
          · rcases RM_gr hR with ⟨z1, z2⟩ | ⟨z1, z2⟩
            · exact absurd z1 w3
            · have hz := foldP_none z2 (zs f - i)
              rw [show i + (zs f - i) = zs f by omega] at hz
              exact fin (by rw [hz]; exact RM_none z1)
          · subst w3
            obtain ⟨y1, y2, y3⟩ := Inv_row h hf (show i < zs f by omega)
            refine M_load_ok y2 fun xx' hx => M_over_loop x2 y1 x1 (eqp_trans hx y3) x3 fun gr' u' d' xx2 hT => RM_put hR (by omega) hT fun m' g' u'' d'' w' hR' x ex => ?_
            rw [nI_1] at ex
            refine hs _ _ _ _ _ _ _ ⟨i + 1, ex, by omega, hR'⟩ ?_
            show zs f - x.toNatClampNeg < zs f - (nI i).toNatClampNeg
            rw [ex, nI_clamp (by omega), nI_clamp (by omega)]; omega
      · refine ⟨.inr none, fun s q => (by cases q), fun e q => (by cases q), ?_, ?_⟩
        · intro size tooG rows taken post postx hk
          unfold wp_G_over
          refine G_reqF_ok hn hm (fun _ => G_reqF_ok hn hm (fun _ => G_reqR_ok hn hm (fun _ => ⟨vp_in_nI (by omega) (by omega), ?_⟩) (fun w => absurd w (by omega))) (fun w => absurd ⟨g, hg, rfl⟩ w)) (fun w => absurd ⟨f, hf, rfl⟩ w)
          rw [nI_clamp (by omega), b2, nI1 b1]
          exact ⟨fun w => absurd w h1, fun _ => hk _ _ _ _⟩
        · intro code qmade great up down work xx post hk
          unfold wp_M_over
          refine M_may_ok hn hfn (fun w => absurd ⟨⟨f, hf, rfl⟩, ⟨g, hg, rfl⟩⟩ w) (fun _ _ w => absurd w (by omega)) (fun _ _ _ => ⟨fun _ => ⟨vp_in_nI (by omega) (by omega), ?_⟩, fun w => absurd w (by decide)⟩)
          rw [nI_clamp (by omega), b3, nI1 b1]
          exact ⟨fun w => absurd w h1, fun _ => hk _ _ _ _ _ _ _ _ _ _ _ ⟨rfl, rfl, rfl, rfl, rfl⟩⟩
    · refine ⟨.inl 2, fun s q => (by cases q), fun e q => (by cases q; exact Or.inr rfl), ?_, ?_⟩
      · intro size tooG rows taken post postx hk
        unfold wp_G_over
        exact G_reqF_ok hn hm (fun _ => G_reqF_ok hn hm (fun _ => G_reqR_ok hn hm (fun w => absurd w (by omega)) (fun _ => hk _ _ _ _)) (fun w => absurd hp.2 w)) (fun w => absurd hp.1 w)
      · intro code qmade great up down work xx post hk
        unfold wp_M_over
        exact M_may_ok hn hfn (fun w => absurd hp w) (fun _ _ _ => ⟨fun w => absurd rfl w, fun _ => hk _ _ _ _ _ _ _ _ _ _ _ ⟨rfl, rfl, rfl, rfl⟩⟩) (fun _ _ w => absurd w (by omega))
  · refine ⟨.inl 1, fun s q => (by cases q), fun e q => (by cases q; exact Or.inl rfl), ?_, ?_⟩
    · intro size tooG rows taken post postx hk
      unfold wp_G_over
      exact G_reqF_ok hn hm (fun w1 => G_reqF_ok hn hm (fun w2 => absurd ⟨w1, w2⟩ hp) (fun _ => hk _ _ _ _)) (fun _ => hk _ _ _ _)
    · intro code qmade great up down work xx post hk
      unfold wp_M_over
      exact M_may_ok hn hfn (fun _ => ⟨fun w => absurd rfl w, fun _ => hk _ _ _ _ _ _ _ _ _ _ _ ⟨rfl, rfl, rfl, rfl⟩⟩) (fun w1 w2 _ => absurd ⟨w1, w2⟩ hp) (fun w1 w2 _ => absurd ⟨w1, w2⟩ hp)
end Ov
