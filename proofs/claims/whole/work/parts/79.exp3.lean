section Ex3
variable {n : Nat} {zs : Nat → Nat} {made funs : Int32} {kept sizes qsize qrows : Nat → Int32}
theorem exponential_pair (h : InvK n zs made kept sizes funs qsize qrows) (p : Int32) : ∃ o : Oc, (∀ s, o = .inr (some s) → n < 80) ∧ (∀ e, o = .inl e → e = 1 ∨ e = 2) ∧
    (∀ size tooG rows taken post postx, GOK o n made kept sizes "java/lang/IndexOutOfBoundsException" (fun r m k z => ∀ a b c d, post r m a b k z c d) (fun E => ∀ a b c d, postx E made a b kept sizes c d) → wp_G_exponential made size tooG kept sizes rows taken p post postx) ∧
    (∀ code qmade great up down work xx power post, (∀ b code' funs' qmade' great' up' down' size' rows' work' xx' power', MR o n funs qsize qrows b code' funs' size' rows' → post b code' funs' qmade' great' up' down' size' rows' work' xx' power') → wp_M_exponential code funs qmade great up down qsize qrows work xx power p post) := by
  have hn := h.1
  have hm := h.2.1
  have hfn := h.2.2.1
  by_cases hp : isH p n
  · rcases Nat.lt_or_ge n 80 with h80 | h80
    · obtain ⟨f, hf, rfl⟩ := hp
      obtain ⟨a1, a2, a3, a4, a5⟩ := h.2.2.2 f hf
      obtain ⟨g, hg⟩ : ∃ g, g = rowT kept f := ⟨_, rfl⟩
      obtain ⟨o, ho1, ho2⟩ : ∃ o : Oc, ((∀ i, i < zs f → ∃ c, okE (g i) c) → o = .inr (some (putS s0 (some (pT (pwr g (zs f))))))) ∧ (∀ i, i < zs f → (∀ c, ¬ okE (g i) c) → o = .inr none) := by
        by_cases c : ∀ i, i < zs f → ∃ c, okE (g i) c
        · exact ⟨.inr (some (putS s0 (some (pT (pwr g (zs f)))))), fun _ => rfl, fun i hi w => by obtain ⟨d, hd⟩ := c i hi; exact absurd hd (w d)⟩
        · exact ⟨.inr none, fun w => absurd w c, fun _ _ _ => rfl⟩
      refine ⟨o, fun _ _ => h80, fun e q => ?_, ?_, ?_⟩
      · exfalso
        by_cases c : ∀ i, i < zs f → ∃ c, okE (g i) c
        · rw [ho1 c] at q; cases q
        · have : ∃ i, i < zs f ∧ ∀ c, ¬ okE (g i) c := Classical.byContradiction fun w => c fun i hi => Classical.byContradiction fun w2 => w ⟨i, hi, fun d hd => w2 ⟨d, hd⟩⟩
          obtain ⟨i, hi, w⟩ := this
          rw [ho2 i hi w] at q; cases q
      · intro size tooG rows taken post postx hk
        unfold wp_G_exponential
        refine G_reqF_ok hn hm (fun _ => G_reqR_ok hn hm (fun _ => ?_) (fun w => absurd w (by omega))) (fun w => absurd ⟨f, hf, rfl⟩ w)
        unfold wp_W_begin
        refine W_takeOne_ok fun t ht => ?_
        refine lpW3_ex _ (fun v tg tk => ∃ i : Nat, v = nI i ∧ i ≤ zs f ∧ (∀ k, k < i → ∃ c, okE (g k) c) ∧ TC (some (pT (pwr g i))) 0 tg tk) (fun v _ _ => zs f - v.toNatClampNeg) ?_ _ _ _ ⟨0, nI_0.symm, by omega, fun k hk => absurd hk (Nat.not_lt_zero k), wfr_congr (fun j hj => by rw [Nat.zero_add]; exact ((ht j hj).trans (pT_0 (g := g) j hj)).symm) pT_wf, Or.inr ⟨_, rfl, rfl, eqp_trans ht pT_0⟩⟩
        rintro ih v tg tk ⟨i, rfl, hi, hall, hT⟩ hs
        unfold wb_G_exponential_25
        rw [nI_clamp (by omega), a2, nI_leI (by omega) (by omega)]
        refine ⟨vp_in_nI (by omega) (by omega), fun w => ?_, fun w => G_rowOf_ok ?_⟩
        · have : i = zs f := by omega
          subst this
          rw [ho1 hall] at hk
          exact RC_put (RC_0 rows) (by omega) hT.1 hT.2 fun s1 t1 r1 hR => G_keep_ok hR (by omega) h80 hm (fun w => hk.1 w _ _ _ _) (fun z f' kept' w1 w2 w3 w4 => hk.2 z f' kept' w1 w2 w3 w4 _ _ _ _)
        · obtain ⟨y1, y2, -⟩ := Inv_row h hf (show i < zs f by omega)
          have et : eqp 7 (fun j => kept (70 * f + 7 * i + j)) (g i) := fun j _ => by rw [hg]; rfl
          refine G_cell_ok y2 et (fun c hc => ⟨fun _ => ?_, fun w2 => absurd ((nI_leI (a := 0) (b := c) (by omega) (by have := hc.1; omega)).mpr (Nat.zero_le c)) w2⟩) (fun hno => ⟨fun w2 => absurd w2 (by decide), fun _ => ?_⟩)
          · have h5 := et 5 (by omega)
            dsimp only at h5
            rw [show nI (70 * f + 7 * i) + 5 = nI (70 * f + 7 * i + 5) from nI_add _ 5, nI_clamp (by omega), h5]
            have b1 := hc.2.2.1
            have b2 := hc.2.2.2.1
            refine ⟨vp_in_nI (by omega) (by omega), W_raise_ok hT (by have := hc.1; omega) (by omega) fun tg' tk' hT' x ex => ?_⟩
            rw [pT_rais hc (by rw [hg] at hc ⊢; exact exp_fresh h hf (by omega) hc)] at hT'
            rw [nI_1] at ex
            refine hs _ _ _ ⟨i + 1, ex, by omega, fun k hk2 => ?_, hT'⟩ ?_
            · rcases Nat.lt_or_ge k i with q | q
              · exact hall k q
              · have : k = i := by omega
                rw [this]; exact ⟨c, hc⟩
            · show zs f - x.toNatClampNeg < zs f - (nI i).toNatClampNeg
              rw [ex, nI_clamp (by omega), nI_clamp (by omega)]; omega
          · rw [ho2 i (by omega) hno] at hk
            exact hk _ _ _ _
      · intro code qmade great up down work xx power post hk
        unfold wp_M_exponential
        refine M_may_ok hn hfn (fun w => absurd ⟨⟨f, hf, rfl⟩, ⟨f, hf, rfl⟩⟩ w) (fun _ _ w => absurd w (by omega)) (fun _ _ _ => ⟨fun _ => ?_, fun w => absurd w (by decide)⟩)
        refine lpW2_ex _ (fun v x => ∃ e : Nat, v = nI e ∧ e ≤ 5 ∧ ∀ j, j < e → x j = 0) (fun v _ => 5 - v.toNatClampNeg) ?_ _ _ ⟨0, nI_0.symm, by omega, fun j hj => absurd hj (Nat.not_lt_zero j)⟩
        rintro ih0 v x ⟨e, rfl, he, gz⟩ hs0
        unfold wb_M_exponential_13
        rw [five_le he]
        refine ⟨fun c1 => ?_, fun c1 => ⟨vp_in_nI (by omega) (by omega), fun y ey z ez => ?_⟩⟩
        · refine lpW2_ex _ (fun v x => ∃ i : Nat, v = nI i ∧ i ≤ zs f ∧ (∀ k, k < i → ∃ c, okE (g k) c) ∧ ∀ j, j < 5 → x j = pwr g i j) (fun v _ => zs f - v.toNatClampNeg) ?_ _ _ ⟨0, nI_0.symm, by omega, fun k hk => absurd hk (Nat.not_lt_zero k), fun j hj => (gz j (by omega)).trans rfl⟩
          rintro ih v x ⟨i, rfl, hi, hall, hx⟩ hs
          unfold wb_M_exponential_33
          rw [nI_clamp (by omega), a3, nI_leI (by omega) (by omega)]
          refine ⟨vp_in_nI (by omega) (by omega), fun w => ?_, fun w => ?_⟩
          · have : i = zs f := by omega
            subst this
            rw [ho1 hall] at hk
            unfold wp_M_start
            refine lpW2_ex _ (fun v y => ∃ e : Nat, v = nI e ∧ e ≤ 5 ∧ ∀ j, j < e → y j = pwr g (zs f) j) (fun v _ => 5 - v.toNatClampNeg) ?_ _ _ ⟨0, nI_0.symm, by omega, fun j hj => absurd hj (Nat.not_lt_zero j)⟩
            rintro ih5 v y ⟨e, rfl, he, gy⟩ hs5
            unfold wb_M_exponential_228
            have c6 : (6 : Int32).toNatClampNeg = 6 := by decide
            have c5' : (5 : Int32).toNatClampNeg = 5 := by decide
            rw [five_le he, c5', c6]
            refine ⟨fun c2 => ⟨in5_7, fun x1 e1 => ⟨in6_7, fun x2 e2 => RM_put (RM_0 work) (by omega) (Or.inr ⟨pT (pwr g (zs f)), rfl, rfl, pT_wf, fun j hj => ?_⟩) fun m' g' u' d' w' hR' => M_keep_ok hR' (by omega) h80 hfn (fun w3 => hk _ _ _ _ _ _ _ _ _ _ _ _ (Or.inl ⟨w3, rfl, rfl, rfl, rfl⟩)) (fun z f' rows' w3 w4 w5 w6 => hk _ _ _ _ _ _ _ _ _ _ _ _ (Or.inr ⟨z, f', w3, w4, w5, rfl, rfl, rfl, w6, rfl⟩))⟩⟩, fun c2 => ⟨vp_in_nI (by omega) (by omega), vp_in_nI (by omega) (by omega), fun x1 e1 x2 e2 => ?_⟩⟩
            · rw [e2, e1]
              unfold pT
              rcases (show j < 5 ∨ j = 5 ∨ j = 6 by omega) with z | z | z
              · rw [if_pos z, pk_un (by omega), pk_un (by omega)]; exact gy j (by omega)
              · rw [z, if_neg (by omega), pk_un (by omega), pk_us]
              · rw [z, if_neg (by omega), pk_us]
            · rw [nI_1] at e2
              rw [nI_clamp (by omega)] at e1
              refine hs5 _ _ ⟨e + 1, e2, by omega, fun j hj => ?_⟩ ?_
              · rw [e1]
                by_cases q : j = e
                · rw [q, pk_us]; exact hx e (by omega)
                · rw [pk_un q]; exact gy j (by omega)
              · show 5 - x2.toNatClampNeg < 5 - (nI e).toNatClampNeg
                rw [e2, nI_clamp (by omega), nI_clamp (by omega)]; omega
          · obtain ⟨y1, y2, y3⟩ := Inv_row h hf (show i < zs f by omega)
            rw [← hg] at y3
            refine M_tree y2 y3 (fun hno => ?_) (fun c hc x2 ex => ?_)
            · rw [ho2 i (by omega) hno] at hk
              exact hk _ _ _ _ _ _ _ _ _ _ _ _ ⟨rfl, rfl, rfl, rfl, rfl⟩
            · refine hs _ _ ⟨i + 1, ex, by omega, fun k hk2 => ?_, fun j hj => ?_⟩ ?_
              · rcases Nat.lt_or_ge k i with q | q
                · exact hall k q
                · have : k = i := by omega
                  rw [this]; exact ⟨c, hc⟩
              · show upd x c (g i 5) j = (if okE (g i) j then g i 5 else pwr g i j)
                by_cases q : j = c
                · rw [q, pk_us, if_pos hc]
                · rw [pk_un q, if_neg (fun w => q (okE_uniq w hc))]; exact hx j hj
              · show zs f - x2.toNatClampNeg < zs f - (nI i).toNatClampNeg
                rw [ex, nI_clamp (by omega), nI_clamp (by omega)]; omega
        · rw [nI_1] at ez
          rw [nI_clamp (by omega)] at ey
          refine hs0 _ _ ⟨e + 1, ez, by omega, fun j hj => ?_⟩ ?_
          · rw [ey]
            by_cases q : j = e
            · rw [q, pk_us]
            · rw [pk_un q]; exact gz j (by omega)
          · show 5 - z.toNatClampNeg < 5 - (nI e).toNatClampNeg
            rw [ez, nI_clamp (by omega), nI_clamp (by omega)]; omega
    · refine ⟨.inl 2, fun s q => (by cases q), fun e q => (by cases q; exact Or.inr rfl), ?_, ?_⟩
      · intro size tooG rows taken post postx hk
        unfold wp_G_exponential
        exact G_reqF_ok hn hm (fun _ => G_reqR_ok hn hm (fun w => absurd w (by omega)) (fun _ => hk _ _ _ _)) (fun w => absurd hp w)
      · intro code qmade great up down work xx power post hk
        unfold wp_M_exponential
        exact M_may_ok hn hfn (fun w => absurd ⟨hp, hp⟩ w) (fun _ _ _ => ⟨fun w => absurd rfl w, fun _ => hk _ _ _ _ _ _ _ _ _ _ _ _ ⟨rfl, rfl, rfl, rfl⟩⟩) (fun _ _ w => absurd w (by omega))
  · refine ⟨.inl 1, fun s q => (by cases q), fun e q => (by cases q; exact Or.inl rfl), ?_, ?_⟩
    · intro size tooG rows taken post postx hk
      unfold wp_G_exponential
      exact G_reqF_ok hn hm (fun w1 => absurd w1 hp) (fun _ => hk _ _ _ _)
    · intro code qmade great up down work xx power post hk
      unfold wp_M_exponential
      exact M_may_ok hn hfn (fun _ => ⟨fun w => absurd rfl w, fun _ => hk _ _ _ _ _ _ _ _ _ _ _ _ ⟨rfl, rfl, rfl, rfl⟩⟩) (fun w1 _ _ => absurd w1 hp) (fun w1 _ _ => absurd w1 hp)
end Ex3
