/-! PRODUCTS AND QUOTIENTS. -/
theorem W_mulTerm_ok {tg0 tg : Int32} {kept taken t : Nat → Int32} {b : Nat} {post : Int32 → (Nat → Int32) → Prop} (hb : b + 7 ≤ 5600) (hu : wfr kept b) (h : TC (some t) tg0 tg taken)
    (k : ∀ tg' taken', TC (mkT t (kept (b + 5)).toInt (kept (b + 6)).toInt (fun j => (kept (b + j)).toInt)) tg0 tg' taken' → post tg' taken') : wp_W_multiplyByTerm tg kept taken (nI b) post := by
  obtain ⟨u1, u2, u3, u4, u5⟩ := hu
  unfold wp_W_multiplyByTerm
  rw [show nI b + 5 = nI (b + 5) from nI_add b 5, show nI b + 6 = nI (b + 6) from nI_add b 6, nI_clamp (by omega), nI_clamp (by omega)]
  refine ⟨vp_in_nI (by omega) (by omega), vp_in_nI (by omega) (by omega), W_multiply_ok h (by rw [l_of_i]; omega) (by rw [l_of_i]; omega) (by rw [l_of_i]; omega) (by rw [l_of_i]; exact u2) fun tg1 tk1 hT => ?_⟩
  rw [l_of_i, l_of_i] at hT
  refine lpW3_ex _ (fun v tg tk => ∃ e : Nat, v = nI e ∧ e ≤ 5 ∧ TC (term5 (mulN (kept (b + 5)).toInt (kept (b + 6)).toInt (some t)) (fun j => (kept (b + j)).toInt) e) tg0 tg tk) (fun v _ _ => 5 - v.toNatClampNeg) ?_ _ _ _ ⟨0, nI_0.symm, by omega, hT⟩
  rintro ih v tg2 tk2 ⟨e, rfl, he, hT2⟩ hs
  unfold wb_W_multiplyByTerm_19
  rw [five_le he, nI_add, nI_clamp (by omega)]
  refine ⟨fun c => ?_, fun c => ⟨vp_in_nI (by omega) (by omega), W_raise_ok hT2 (by omega) ?_ fun tg3 tk3 hT3 x ex => ?_⟩⟩
  · have : e = 5 := by omega
    subst this; exact k _ _ hT2
  · have := u1 e (by omega); unfold wfe at this; omega
  · rw [nI_1] at ex
    refine hs _ _ _ ⟨e + 1, ex, by omega, hT3⟩ ?_
    show 5 - x.toNatClampNeg < 5 - (nI e).toNatClampNeg
    rw [ex, nI_clamp (by omega), nI_clamp (by omega)]; omega
theorem W_divTerm_ok {tg0 tg : Int32} {kept taken t : Nat → Int32} {b : Nat} {post : Int32 → (Nat → Int32) → Prop} (hb : b + 7 ≤ 5600) (hu : wfr kept b) (h : TC (some t) tg0 tg taken)
    (k : ∀ tg' taken', TC (mkT t (kept (b + 6)).toInt (kept (b + 5)).toInt (fun j => -(kept (b + j)).toInt)) tg0 tg' taken' → post tg' taken') : wp_W_divideByTerm tg kept taken (nI b) post := by
  obtain ⟨u1, u2, u3, u4, u5⟩ := hu
  unfold wp_W_divideByTerm
  rw [show nI b + 5 = nI (b + 5) from nI_add b 5, show nI b + 6 = nI (b + 6) from nI_add b 6, nI_clamp (by omega), nI_clamp (by omega)]
  refine ⟨vp_in_nI (by omega) (by omega), vp_in_nI (by omega) (by omega), W_multiply_ok h (by rw [l_of_i]; omega) (by rw [l_of_i]; omega) (by rw [l_of_i]; exact u2) (by rw [l_of_i]; omega) fun tg1 tk1 hT => ?_⟩
  rw [l_of_i, l_of_i] at hT
  refine lpW3_ex _ (fun v tg tk => ∃ e : Nat, v = nI e ∧ e ≤ 5 ∧ TC (term5 (mulN (kept (b + 6)).toInt (kept (b + 5)).toInt (some t)) (fun j => -(kept (b + j)).toInt) e) tg0 tg tk) (fun v _ _ => 5 - v.toNatClampNeg) ?_ _ _ _ ⟨0, nI_0.symm, by omega, hT⟩
  rintro ih v tg2 tk2 ⟨e, rfl, he, hT2⟩ hs
  unfold wb_W_divideByTerm_19
  rw [five_le he, nI_add, nI_clamp (by omega)]
  refine ⟨fun c => ?_, fun c => ⟨vp_in_nI (by omega) (by omega), ?_⟩⟩
  · have : e = 5 := by omega
    subst this; exact k _ _ hT2
  · have hw := u1 e (by omega)
    unfold wfe at hw
    have hneg : (-(kept (b + e))).toInt = -(kept (b + e)).toInt := i_neg (by omega)
    refine W_raise_ok hT2 (by omega) (by rw [hneg]; omega) fun tg3 tk3 hT3 x ex => ?_
    rw [hneg] at hT3
    rw [nI_1] at ex
    refine hs _ _ _ ⟨e + 1, ex, by omega, hT3⟩ ?_
    show 5 - x.toNatClampNeg < 5 - (nI e).toNatClampNeg
    rw [ex, nI_clamp (by omega), nI_clamp (by omega)]; omega
/-- the reference's term, before and behind its scale, against the same -/
theorem mkT_rel {t xx1 : Nat → Int32} {a b : Int} {dl : Nat → Int} (ht : wfr t 0) (he : ∀ j, j < 5 → (xx1 j).toInt = (t j).toInt + dl j) (h5 : xx1 5 = t 5) (h6 : xx1 6 = t 6) (hA : a ≠ 0) (hB : b ≠ 0) :
    ((1000000 < (redU ((t 5).toInt * a) ((t 6).toInt * b)).natAbs ∨ 1000000 < redD ((t 5).toInt * a) ((t 6).toInt * b)) → mkT t a b dl = none) ∧
    (¬ (1000000 < (redU ((t 5).toInt * a) ((t 6).toInt * b)).natAbs ∨ 1000000 < redD ((t 5).toInt * a) ((t 6).toInt * b)) → ∀ xx2, xx2 = upd (upd xx1 5 (Int32.ofInt (redU ((t 5).toInt * a) ((t 6).toInt * b)))) 6 (Int32.ofInt (redD ((t 5).toInt * a) ((t 6).toInt * b))) →
      ((mkT t a b dl = none ∧ ∃ j, j < 5 ∧ ¬ wfe (xx2 j)) ∨ ∃ t', mkT t a b dl = some t' ∧ wfr t' 0 ∧ eqp 7 xx2 t')) := by
  obtain ⟨w1, w2, w3, w4, w5⟩ := wfr0 ht
  constructor
  · intro c
    unfold mkT
    rw [show mulN a b (some t) = none from if_pos c, term5_none]
  · intro c xx2 e2
    have pd := redD_pos (a := (t 5).toInt * a) (Int.mul_ne_zero (show (t 6).toInt ≠ 0 by omega) hB)
    have pu := redU_ne (b := (t 6).toInt * b) (Int.mul_ne_zero w2 hA)
    obtain ⟨t1, et1⟩ : ∃ t1, t1 = upd (upd t 5 (Int32.ofInt (redU ((t 5).toInt * a) ((t 6).toInt * b)))) 6 (Int32.ofInt (redD ((t 5).toInt * a) ((t 6).toInt * b))) := ⟨_, rfl⟩
    have hm : mulN a b (some t) = some t1 := by rw [et1]; exact if_neg c
    have ht1 : wfr t1 0 := by rw [et1]; exact wfr_num ht (by rw [i_ofInt (by omega) (by omega)]; exact pu) (by rw [i_ofInt (by omega) (by omega)]; omega) (by rw [i_ofInt (by omega) (by omega)]; exact pd) (by rw [i_ofInt (by omega) (by omega)]; omega)
    have ej : ∀ j, j < 5 → t1 j = t j ∧ xx2 j = xx1 j := fun j hj => by
      rw [et1, e2, pk_un (by omega), pk_un (by omega), pk_un (by omega), pk_un (by omega)]; exact ⟨rfl, rfl⟩
    unfold mkT
    rw [hm]
    rcases term5_some t1 dl 5 with ⟨r1, r2⟩ | ⟨⟨j, j1, j2⟩, r2⟩
    · right
      refine ⟨_, r2, wfr_rowE ht1 r1, fun j hj => ?_⟩
      by_cases q : j < 5
      · obtain ⟨q1, q2⟩ := ej j q
        unfold rowE
        rw [if_pos q, q1, q2]
        exact i_of_eq (he j q)
      · unfold rowE
        rw [if_neg q, et1, e2]
        rcases (show j = 5 ∨ j = 6 by omega) with z | z
        · rw [z, pk_un (by omega), pk_us, pk_un (by omega), pk_us]
        · rw [z, pk_us, pk_us]
    · left
      refine ⟨r2, j, j1, fun q => j2 ?_⟩
      rw [(ej j j1).1]
      rw [(ej j j1).2] at q
      unfold wfe at q
      rw [he j j1] at q; exact q
theorem M_mul_ok {up down : Int64} {qrows xx t u : Nat → Int32} {f i g k0 : Nat} {post : Int32 → Int64 → Int64 → (Nat → Int32) → Prop} (h1 : 70 * f + 7 * i + 7 ≤ 5600) (h2 : 70 * g + 7 * k0 + 7 ≤ 5600) (ht : wfr t 0) (hu : wfr u 0) (et : eqp 7 (fun j => qrows (70 * f + 7 * i + j)) t) (eu : eqp 7 (fun j => qrows (70 * g + 7 * k0 + j)) u)
    (k : ∀ gr u' d' xx', ((mkT t (u 5).toInt (u 6).toInt (fun j => (u j).toInt) = none ∧ (gr = 1 ∨ (gr = 0 ∧ ∃ j, j < 5 ∧ ¬ wfe (xx' j)))) ∨ ∃ t', mkT t (u 5).toInt (u 6).toInt (fun j => (u j).toInt) = some t' ∧ gr = 0 ∧ wfr t' 0 ∧ eqp 7 xx' t') → post gr u' d' xx') : wp_M_multiply 0 up down qrows xx (nI f) (nI i) (nI g) (nI k0) post := by
  obtain ⟨w1, w2, w3, w4, w5⟩ := wfr0 ht
  obtain ⟨v1, v2, v3, v4, v5⟩ := wfr0 hu
  unfold wp_M_multiply
  refine M_load_ok h1 fun xx' hx => ?_
  refine lpW2_ex _ (fun v x => ∃ e : Nat, v = nI e ∧ e ≤ 5 ∧ (∀ j, j < e → (x j).toInt = (t j).toInt + (u j).toInt) ∧ ∀ j, e ≤ j → j < 7 → x j = t j) (fun v _ => 5 - v.toNatClampNeg) ?_ _ _ ⟨0, nI_0.symm, by omega, fun j hj => absurd hj (Nat.not_lt_zero j), fun j _ hj => (hx j hj).trans (et j hj)⟩
  rintro ih v x ⟨e, rfl, he, g1, g2⟩ hs
  unfold wb_M_multiply_9
  rw [five_le he]
  refine ⟨fun c => ?_, fun c => ⟨vp_in_nI (by omega) (by omega), M_at_ok (by omega) ⟨vp_in_nI (by omega) (by omega), fun x19 e19 x20 e20 => ?_⟩⟩⟩
  · have : e = 5 := by omega
    subst this
    have x5 := g2 5 (by omega) (by omega)
    have x6 := g2 6 (by omega) (by omega)
    have a5 := eu 5 (by omega)
    have a6 := eu 6 (by omega)
    dsimp only at a5 a6
    refine M_at_ok (j := 5) (by omega) (M_at_ok (j := 6) (by omega) ?_)
    rw [a5, a6]
    obtain ⟨m1, m2⟩ := mkT_rel (a := (u 5).toInt) (b := (u 6).toInt) (dl := fun j => (u j).toInt) ht g1 x5 x6 v2 (by omega)
    refine M_scale_ok (by rw [x5]; exact w2) (by rw [x5]; exact w3) (by rw [x6]; exact w4) (by rw [x6]; exact w5) (by rw [l_of_i]; exact v3) (by rw [l_of_i]; omega) (by rw [l_of_i]; omega) ?_ ?_
    · rw [x5, x6, l_of_i, l_of_i]
      intro c2 u' d' xx2
      exact k _ _ _ _ (Or.inl ⟨m1 c2, Or.inl rfl⟩)
    · rw [x5, x6, l_of_i, l_of_i]
      intro c2 u' d'
      rcases m2 c2 _ rfl with ⟨q1, q2⟩ | ⟨t', q1, q2, q3⟩
      · exact k _ _ _ _ (Or.inl ⟨q1, Or.inr ⟨rfl, q2⟩⟩)
      · exact k _ _ _ _ (Or.inr ⟨t', q1, rfl, q2, q3⟩)
  · rw [nI_1] at e20
    rw [nI_clamp (by omega)] at e19
    have ae := eu e (by omega)
    dsimp only at ae
    have b1 := w1 e (by omega)
    have b2 := v1 e (by omega)
    unfold wfe at b1 b2
    refine hs _ _ ⟨e + 1, e20, by omega, fun j hj => ?_, fun j hj1 hj2 => ?_⟩ ?_
    · rw [e19]
      by_cases w : j = e
      · rw [w, pk_us, ae, i_add (by rw [g2 e (by omega) (by omega)]; omega) (by rw [g2 e (by omega) (by omega)]; omega), g2 e (by omega) (by omega)]
      · rw [pk_un w]; exact g1 j (by omega)
    · rw [e19, pk_un (by omega)]; exact g2 j (by omega) hj2
    · show 5 - x20.toNatClampNeg < 5 - (nI e).toNatClampNeg
      rw [e20, nI_clamp (by omega), nI_clamp (by omega)]; omega
