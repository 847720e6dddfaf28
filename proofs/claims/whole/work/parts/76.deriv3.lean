section De3
variable {n : Nat} {zs : Nat → Nat} {made funs : Int32} {kept sizes qsize qrows : Nat → Int32}
theorem sF_bd {t : Nat → Int32} {w : Nat} (ht : wfr t 0) (hw : w < 5) : (sF t w).natAbs ≤ 1000000 := by
  have a := (wfr0 ht).1 w hw
  have b := (wfr0 ht).1 0 (by omega)
  unfold wfe at a b
  unfold sF
  split <;> omega
theorem derive_pair (h : InvK n zs made kept sizes funs qsize qrows) (p : Int32) : ∃ o : Oc, (∀ s, o = .inr (some s) → n < 80) ∧ (∀ e, o = .inl e → e = 1 ∨ e = 2) ∧
    (∀ size tooG rows taken post postx, GOK o n made kept sizes "java/lang/IndexOutOfBoundsException" (fun r m k z => ∀ a b c d, post r m a b k z c d) (fun E => ∀ a b c d, postx E made a b kept sizes c d) → wp_G_derive made size tooG kept sizes rows taken p post postx) ∧
    (∀ code qmade great up down work xx post, (∀ b code' funs' qmade' great' up' down' size' rows' work' xx', MR o n funs qsize qrows b code' funs' size' rows' → post b code' funs' qmade' great' up' down' size' rows' work' xx') → wp_M_derive code funs qmade great up down qsize qrows work xx p post) := by
  have hn := h.1
  have hm := h.2.1
  have hfn := h.2.2.1
  by_cases hp : isH p n
  · rcases Nat.lt_or_ge n 80 with h80 | h80
    · obtain ⟨f, hf, rfl⟩ := hp
      obtain ⟨a1, a2, a3, a4, a5⟩ := h.2.2.2 f hf
      refine ⟨.inr (some (foldE kept f (zs f) s0)), fun _ _ => h80, fun e q => (by cases q), ?_, ?_⟩
      · intro size tooG rows taken post postx hk
        unfold wp_G_derive
        refine G_reqF_ok hn hm (fun _ => G_reqR_ok hn hm (fun _ => ?_) (fun w => absurd w (by omega))) (fun w => absurd ⟨f, hf, rfl⟩ w)
        unfold wp_W_begin
        refine lpW5_ex _ (fun v sz tg rw_ _ => ∃ i : Nat, v = nI i ∧ i ≤ zs f ∧ RC (foldE kept f i s0) (5 * i) sz tg rw_) (fun v _ _ _ _ => zs f - v.toNatClampNeg) ?_ _ _ _ _ _ ⟨0, nI_0.symm, by omega, RC_0 rows⟩
        rintro ih v sz tg rw_ tk ⟨i, rfl, hi, hR⟩ hs
        unfold wb_G_derive_18
        rw [nI_clamp (by omega), a2, nI_leI (by omega) (by omega)]
        refine ⟨vp_in_nI (by omega) (by omega), fun w => ?_, fun w => G_rowOf_ok ?_⟩
        · have : i = zs f := by omega
          subst this
          exact G_keep_ok hR (by omega) h80 hm (fun w => hk.1 w _ _ _ _) (fun z f' kept' w1 w2 w3 w4 => hk.2 z f' kept' w1 w2 w3 w4 _ _ _ _)
        · obtain ⟨y1, y2, -⟩ := Inv_row h hf (show i < zs f by omega)
          have w1 := (wfr0 y1).1 0 (by omega)
          unfold wfe at w1
          have o2 : (2 : Int32).toInt = 2 := by decide
          have et : eqp 7 (fun j => kept (70 * f + 7 * i + j)) (rowT kept f i) := fun j _ => rfl
          rw [show nI (70 * f + 7 * i) + 0 = nI (70 * f + 7 * i + 0) from nI_add _ 0, show nI (70 * f + 7 * i) + 1 = nI (70 * f + 7 * i + 1) from nI_add _ 1, show nI (70 * f + 7 * i) + 2 = nI (70 * f + 7 * i + 2) from nI_add _ 2, show nI (70 * f + 7 * i) + 3 = nI (70 * f + 7 * i + 3) from nI_add _ 3, show nI (70 * f + 7 * i) + 4 = nI (70 * f + 7 * i + 4) from nI_add _ 4, nI_clamp (by omega), nI_clamp (by omega), nI_clamp (by omega), nI_clamp (by omega), nI_clamp (by omega)]
          have e0 : (2 * kept (70 * f + 7 * i + 0)).toInt = sF (rowT kept f i) 0 := by
            show (2 * rowT kept f i 0).toInt = 2 * (rowT kept f i 0).toInt
            rw [i_mul (by rw [o2]; omega) (by rw [o2]; omega), o2]
          refine ⟨vp_in_nI (by omega) (by omega), G_slope_ok (w := 0) hR (by omega) y2 y1 et e0 rfl rfl rfl fun s1 t1 r1 k1 hR1 => ?_⟩
          refine ⟨vp_in_nI (by omega) (by omega), G_slope_ok (w := 1) hR1 (by omega) y2 y1 et rfl rfl rfl rfl fun s2 t2 r2 k2 hR2 => ?_⟩
          refine ⟨vp_in_nI (by omega) (by omega), G_slope_ok (w := 2) hR2 (by omega) y2 y1 et rfl rfl rfl rfl fun s3 t3 r3 k3 hR3 => ?_⟩
          refine ⟨vp_in_nI (by omega) (by omega), G_slope_ok (w := 3) hR3 (by omega) y2 y1 et rfl rfl rfl rfl fun s4 t4 r4 k4 hR4 => ?_⟩
          refine ⟨vp_in_nI (by omega) (by omega), G_slope_ok (w := 4) hR4 (by omega) y2 y1 et rfl rfl rfl rfl fun s5 t5 r5 k5 hR5 x ex => ?_⟩
          rw [nI_1] at ex
          refine hs _ _ _ _ _ ⟨i + 1, ex, by omega, hR5⟩ ?_
          show zs f - x.toNatClampNeg < zs f - (nI i).toNatClampNeg
          rw [ex, nI_clamp (by omega), nI_clamp (by omega)]; omega
      · intro code qmade great up down work xx post hk
        unfold wp_M_derive
        refine M_may_ok hn hfn (fun w => absurd ⟨⟨f, hf, rfl⟩, ⟨f, hf, rfl⟩⟩ w) (fun _ _ w => absurd w (by omega)) (fun _ _ _ => ⟨fun _ => ?_, fun w => absurd w (by decide)⟩)
        unfold wp_M_start
        refine lpW7_ex _ (fun v mk gr _ _ wk _ => ∃ i : Nat, v = nI i ∧ i ≤ zs f ∧ RM (foldE kept f i s0) (5 * i) mk gr wk) (fun v _ _ _ _ _ _ => zs f - v.toNatClampNeg) ?_ _ _ _ _ _ _ _ ⟨0, nI_0.symm, by omega, RM_0 work⟩
        rintro ih v mk gr u1 d1 wk x1 ⟨i, rfl, hi, hR⟩ hs
        unfold wb_M_derive_17
        rw [nI_clamp (by omega), a3, nI_leI (by omega) (by omega)]
        refine ⟨vp_in_nI (by omega) (by omega), fun w => ?_, fun w => ?_⟩
        · have : i = zs f := by omega
          subst this
          exact M_keep_ok hR (by omega) h80 hfn (fun w3 => hk _ _ _ _ _ _ _ _ _ _ _ (Or.inl ⟨w3, rfl, rfl, rfl, rfl⟩)) (fun z f' rows' w3 w4 w5 w6 => hk _ _ _ _ _ _ _ _ _ _ _ (Or.inr ⟨z, f', w3, w4, w5, rfl, rfl, rfl, w6, rfl⟩))
        · obtain ⟨y1, y2, y3⟩ := Inv_row h hf (show i < zs f by omega)
          refine lpW7_ex _ (fun v mk gr _ _ wk _ => ∃ j : Nat, v = nI j ∧ j ≤ 5 ∧ RM (foldD (rowT kept f i) j (foldE kept f i s0)) (5 * i + j) mk gr wk) (fun v _ _ _ _ _ _ => 5 - v.toNatClampNeg) ?_ _ _ _ _ _ _ _ ⟨0, nI_0.symm, by omega, hR⟩
          rintro ih2 v mk gr u1 d1 wk x1 ⟨j, rfl, hj, hR2⟩ hs2
          unfold wb_M_derive_29
          have fin : RM (foldD (rowT kept f i) 5 (foldE kept f i s0)) (5 * i + 5) mk gr wk → wj_M_derive_168 (nI i) (fun a b c d e g h => ih a b c d e g h) mk gr u1 d1 wk x1 := by
            intro hF
            unfold wj_M_derive_168
            intro x ex
            rw [nI_1] at ex
            refine hs _ _ _ _ _ _ _ ⟨i + 1, ex, by omega, hF⟩ ?_
            show zs f - x.toNatClampNeg < zs f - (nI i).toNatClampNeg
            rw [ex, nI_clamp (by omega), nI_clamp (by omega)]; omega
          rw [five_le hj]
          refine ⟨fun w2 => fin ?_, fun w2 => ⟨fun w3 => ?_, fun w3 => ?_⟩⟩
          · have : j = 5 := by omega
            subst this; exact hR2
          · rcases RM_gr hR2 with ⟨z1, z2⟩ | ⟨z1, z2⟩
            · exact absurd z1 w3
            · have hz := foldD_none z2 (5 - j)
              rw [show j + (5 - j) = 5 by omega] at hz
              exact fin (by rw [hz]; exact RM_none z1)
          · subst w3
            have nx : ∀ mk' gr' up' down' wk' xx', RM (putD (rowT kept f i) j (foldD (rowT kept f i) j (foldE kept f i s0))) (5 * i + j + 1) mk' gr' wk' → wj_M_derive_162 (nI j) ih2 mk' gr' up' down' wk' xx' := by
              intro mk' gr' up' down' wk' xx' hF
              unfold wj_M_derive_162
              intro x ex
              rw [nI_1] at ex
              refine hs2 _ _ _ _ _ _ _ ⟨j + 1, ex, by omega, hF⟩ ?_
              show 5 - x.toNatClampNeg < 5 - (nI j).toNatClampNeg
              rw [ex, nI_clamp (by omega), nI_clamp (by omega)]; omega
            have skip : sF (rowT kept f i) j = 0 → wj_M_derive_162 (nI j) ih2 mk 0 u1 d1 wk x1 := fun q => nx _ _ _ _ _ _ (by
              unfold putD
              rw [if_pos q]
              rcases hR2 with z | ⟨z, g, b1, b2, b3⟩
              · exact Or.inl z
              · exact Or.inr ⟨z, g, b1, by omega, b3⟩)
            have cw0 : nI j = 0 ↔ j = 0 := by
              have : (0 : Int32) = nI 0 := rfl
              rw [this]; exact nI_eq (by omega) (by omega)
            have hb := sF_bd y1 (show j < 5 by omega)
            refine ⟨fun w4 => M_at_ok (by omega) ?_, fun w4 => M_at_ok (j := 0) (by omega) ?_⟩
            · rw [cw0] at w4
              unfold wj_M_derive_68
              intro x ex
              have hx : x.toInt = sF (rowT kept f i) j := by
                rw [ex, l_of_i]; unfold sF; rw [if_neg w4]
                exact congrArg Int32.toInt (y3 j (by omega))
              rw [lg_cmp_eq]
              refine ⟨fun q => M_load_ok y2 fun y hy => M_sl2 (by omega) hR2 (by omega) y1 (eqp_trans hy y3) hx (fun w5 => q (Int64.toInt_inj.mp (by rw [hx, w5]; rfl))) hb nx, fun q => skip (by rw [← hx, q]; rfl)⟩
            · rw [cw0] at w4
              unfold wj_M_derive_68_2
              intro x ex
              have o2 : (2 : Int64).toInt = 2 := by decide
              have y30 := y3 0 (by omega)
              dsimp only at y30
              have w1 := (wfr0 y1).1 0 (by omega)
              unfold wfe at w1
              have hx : x.toInt = sF (rowT kept f i) j := by
                rw [ex, y30, l_mul (by rw [o2, l_of_i]; omega) (by rw [o2, l_of_i]; omega), l_of_i, o2]; unfold sF; rw [if_pos w4]
              rw [lg_cmp_eq]
              refine ⟨fun q => M_load_ok y2 fun y hy => M_sl2 (by omega) hR2 (by omega) y1 (eqp_trans hy y3) hx (fun w5 => q (Int64.toInt_inj.mp (by rw [hx, w5]; rfl))) hb nx, fun q => skip (by rw [← hx, q]; rfl)⟩
    · refine ⟨.inl 2, fun s q => (by cases q), fun e q => (by cases q; exact Or.inr rfl), ?_, ?_⟩
      · intro size tooG rows taken post postx hk
        unfold wp_G_derive
        exact G_reqF_ok hn hm (fun _ => G_reqR_ok hn hm (fun w => absurd w (by omega)) (fun _ => hk _ _ _ _)) (fun w => absurd hp w)
      · intro code qmade great up down work xx post hk
        unfold wp_M_derive
        exact M_may_ok hn hfn (fun w => absurd ⟨hp, hp⟩ w) (fun _ _ _ => ⟨fun w => absurd rfl w, fun _ => hk _ _ _ _ _ _ _ _ _ _ _ ⟨rfl, rfl, rfl, rfl⟩⟩) (fun _ _ w => absurd w (by omega))
  · refine ⟨.inl 1, fun s q => (by cases q), fun e q => (by cases q; exact Or.inl rfl), ?_, ?_⟩
    · intro size tooG rows taken post postx hk
      unfold wp_G_derive
      exact G_reqF_ok hn hm (fun w1 => absurd w1 hp) (fun _ => hk _ _ _ _)
    · intro code qmade great up down work xx post hk
      unfold wp_M_derive
      exact M_may_ok hn hfn (fun _ => ⟨fun w => absurd rfl w, fun _ => hk _ _ _ _ _ _ _ _ _ _ _ ⟨rfl, rfl, rfl, rfl⟩⟩) (fun w1 _ _ => absurd w1 hp) (fun w1 _ _ => absurd w1 hp)
end De3
