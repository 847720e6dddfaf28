/-! times and over, on both sides. -/
theorem foldP_none {g : Nat → Option (Nat → Int32)} {s : Sst} {i : Nat} (h : foldP g i s = none) : ∀ m, foldP g (i + m) s = none
  | 0 => h
  | m + 1 => by show putS (foldP g (i + m) s) _ = none; rw [foldP_none h m]; rfl
def foldN (g : Nat → Nat → Option (Nat → Int32)) (nb : Nat) : Nat → Sst → Sst
  | 0, s => s
  | i + 1, s => foldP (g i) nb (foldN g nb i s)
theorem RM_none {c : Nat} {made great : Int32} {work : Nat → Int32} (h : great = 1) : RM none c made great work := Or.inl ⟨rfl, h⟩
theorem RM_gr {s : Sst} {c : Nat} {made great : Int32} {work : Nat → Int32} (h : RM s c made great work) : (great = 0 ∧ s ≠ none) ∨ (great = 1 ∧ s = none) := by
  rcases h with ⟨a, b⟩ | ⟨_, _, a, -, -, -, b, -⟩
  · exact Or.inr ⟨b, a⟩
  · exact Or.inl ⟨b, by rw [a]; intro q; cases q⟩
section Tm
variable {n : Nat} {zs : Nat → Nat} {made funs : Int32} {kept sizes qsize qrows : Nat → Int32}
def gT (kept : Nat → Int32) (f g : Nat) : Nat → Nat → Option (Nat → Int32) := fun i j => mkT (rowT kept f i) (rowT kept g j 5).toInt (rowT kept g j 6).toInt (fun e => (rowT kept g j e).toInt)
theorem times_pair (h : InvK n zs made kept sizes funs qsize qrows) (p q : Int32) : ∃ o : Oc, (∀ s, o = .inr (some s) → n < 80) ∧ (∀ e, o = .inl e → e = 1 ∨ e = 2) ∧
    (∀ size tooG rows taken post postx, GOK o n made kept sizes "java/lang/IndexOutOfBoundsException" (fun r m k z => ∀ a b c d, post r m a b k z c d) (fun E => ∀ a b c d, postx E made a b kept sizes c d) → wp_G_times made size tooG kept sizes rows taken p q post postx) ∧
    (∀ code qmade great up down work xx post, (∀ b code' funs' qmade' great' up' down' size' rows' work' xx', MR o n funs qsize qrows b code' funs' size' rows' → post b code' funs' qmade' great' up' down' size' rows' work' xx') → wp_M_times code funs qmade great up down qsize qrows work xx p q post) := by
  have hn := h.1
  have hm := h.2.1
  have hfn := h.2.2.1
  by_cases hp : isH p n ∧ isH q n
  · rcases Nat.lt_or_ge n 80 with h80 | h80
    · obtain ⟨⟨f, hf, rfl⟩, ⟨g, hg, rfl⟩⟩ := hp
      obtain ⟨a1, a2, a3, a4, a5⟩ := h.2.2.2 f hf
      obtain ⟨b1, b2, b3, b4, b5⟩ := h.2.2.2 g hg
      refine ⟨.inr (some (foldN (gT kept f g) (zs g) (zs f) s0)), fun _ _ => h80, fun e q => (by cases q), ?_, ?_⟩
      · intro size tooG rows taken post postx hk
        unfold wp_G_times
        refine G_reqF_ok hn hm (fun _ => G_reqF_ok hn hm (fun _ => G_reqR_ok hn hm (fun _ => ?_) (fun w => absurd w (by omega))) (fun w => absurd ⟨g, hg, rfl⟩ w)) (fun w => absurd ⟨f, hf, rfl⟩ w)
        unfold wp_W_begin
        refine lpW5_ex _ (fun v sz tg rw_ _ => ∃ i : Nat, v = nI i ∧ i ≤ zs f ∧ RC (foldN (gT kept f g) (zs g) i s0) (i * zs g) sz tg rw_) (fun v _ _ _ _ => zs f - v.toNatClampNeg) ?_ _ _ _ _ _ ⟨0, nI_0.symm, by omega, by rw [Nat.zero_mul]; exact RC_0 rows⟩
        rintro ih v sz tg rw_ tk ⟨i, rfl, hi, hR⟩ hs
        have bnd : i * zs g ≤ 10 * 10 := Nat.mul_le_mul (by omega) b1
        unfold wb_G_times_23
        rw [nI_clamp (by omega), a2, nI_leI (by omega) (by omega)]
        refine ⟨vp_in_nI (by omega) (by omega), fun w => ?_, fun w => ?_⟩
        · have : i = zs f := by omega
          subst this
          exact G_keep_ok hR (by omega) h80 hm (fun w => hk.1 w _ _ _ _) (fun z f' kept' w1 w2 w3 w4 => hk.2 z f' kept' w1 w2 w3 w4 _ _ _ _)
        · have bnd2 : i * zs g ≤ 9 * 10 := Nat.mul_le_mul (by omega) b1
          obtain ⟨y1, y2, -⟩ := Inv_row h hf (show i < zs f by omega)
          refine lpW5_ex _ (fun v sz tg rw_ _ => ∃ j : Nat, v = nI j ∧ j ≤ zs g ∧ RC (foldP (gT kept f g i) j (foldN (gT kept f g) (zs g) i s0)) (i * zs g + j) sz tg rw_) (fun v _ _ _ _ => zs g - v.toNatClampNeg) ?_ _ _ _ _ _ ⟨0, nI_0.symm, by omega, hR⟩
          rintro ih2 v sz tg rw_ tk ⟨j, rfl, hj, hR2⟩ hs2
          unfold wb_G_times_36
          rw [nI_clamp (by omega), b2, nI_leI (by omega) (by omega)]
          refine ⟨vp_in_nI (by omega) (by omega), fun w2 x ex => ?_, fun w2 => G_rowOf_ok ?_⟩
          · have : j = zs g := by omega
            subst this
            rw [nI_1] at ex
            refine hs _ _ _ _ _ ⟨i + 1, ex, by omega, ?_⟩ ?_
            · rw [Nat.succ_mul]; exact hR2
            · show zs f - x.toNatClampNeg < zs f - (nI i).toNatClampNeg
              rw [ex, nI_clamp (by omega), nI_clamp (by omega)]; omega
          · obtain ⟨x1, x2, -⟩ := Inv_row h hg (show j < zs g by omega)
            refine W_take_ok y2 fun t ht => G_rowOf_ok ?_
            have hwt : wfr t 0 := wfr_congr (fun e he => by rw [Nat.zero_add]; exact (ht e he).symm) y1
            refine W_mulTerm_ok x2 (wfr_congr (fun e he => by rw [Nat.zero_add]; rfl) x1) ⟨hwt, Or.inr ⟨rowT kept f i, rfl, rfl, ht⟩⟩ fun tg1 tk1 hT => RC_put hR2 (by omega) hT.1 hT.2 fun sz' tg' rw' hR' x ex => ?_
            rw [nI_1] at ex
            refine hs2 _ _ _ _ _ ⟨j + 1, ex, by omega, hR'⟩ ?_
            show zs g - x.toNatClampNeg < zs g - (nI j).toNatClampNeg
            rw [ex, nI_clamp (by omega), nI_clamp (by omega)]; omega
      · intro code qmade great up down work xx post hk
        unfold wp_M_times
        refine M_may_ok hn hfn (fun w => absurd ⟨⟨f, hf, rfl⟩, ⟨g, hg, rfl⟩⟩ w) (fun _ _ w => absurd w (by omega)) (fun _ _ _ => ⟨fun _ => ?_, fun w => absurd w (by decide)⟩)
        unfold wp_M_start
        refine lpW7_ex _ (fun v mk gr _ _ wk _ => ∃ i : Nat, v = nI i ∧ i ≤ zs f ∧ RM (foldN (gT kept f g) (zs g) i s0) (i * zs g) mk gr wk) (fun v _ _ _ _ _ _ => zs f - v.toNatClampNeg) ?_ _ _ _ _ _ _ _ ⟨0, nI_0.symm, by omega, by rw [Nat.zero_mul]; exact RM_0 work⟩
        rintro ih v mk gr u1 d1 wk x1 ⟨i, rfl, hi, hR⟩ hs
        have bnd : i * zs g ≤ 10 * 10 := Nat.mul_le_mul (by omega) b1
        unfold wb_M_times_17
        rw [nI_clamp (by omega), a3, nI_leI (by omega) (by omega)]
        refine ⟨vp_in_nI (by omega) (by omega), fun w => ?_, fun w => ?_⟩
        · have : i = zs f := by omega
          subst this
          exact M_keep_ok hR (by omega) h80 hfn (fun w3 => hk _ _ _ _ _ _ _ _ _ _ _ (Or.inl ⟨w3, rfl, rfl, rfl, rfl⟩)) (fun z f' rows' w3 w4 w5 w6 => hk _ _ _ _ _ _ _ _ _ _ _ (Or.inr ⟨z, f', w3, w4, w5, rfl, rfl, rfl, w6, rfl⟩))
        · have bnd2 : i * zs g ≤ 9 * 10 := Nat.mul_le_mul (by omega) b1
          obtain ⟨y1, y2, y3⟩ := Inv_row h hf (show i < zs f by omega)
          refine lpW7_ex _ (fun v mk gr _ _ wk _ => ∃ j : Nat, v = nI j ∧ j ≤ zs g ∧ RM (foldP (gT kept f g i) j (foldN (gT kept f g) (zs g) i s0)) (i * zs g + j) mk gr wk) (fun v _ _ _ _ _ _ => zs g - v.toNatClampNeg) ?_ _ _ _ _ _ _ _ ⟨0, nI_0.symm, by omega, hR⟩
          rintro ih2 v mk gr u1 d1 wk x1 ⟨j, rfl, hj, hR2⟩ hs2
          unfold wb_M_times_30
          have fin : RM (foldP (gT kept f g i) (zs g) (foldN (gT kept f g) (zs g) i s0)) (i * zs g + zs g) mk gr wk → wj_M_times_67 (nI i) ih mk gr u1 d1 wk x1 := by
            intro hF
            unfold wj_M_times_67
            intro x ex
            rw [nI_1] at ex
            refine hs _ _ _ _ _ _ _ ⟨i + 1, ex, by omega, ?_⟩ ?_
            · rw [Nat.succ_mul]; exact hF
            · show zs f - x.toNatClampNeg < zs f - (nI i).toNatClampNeg
              rw [ex, nI_clamp (by omega), nI_clamp (by omega)]; omega
          rw [nI_clamp (by omega), b3, nI_leI (by omega) (by omega)]
          refine ⟨vp_in_nI (by omega) (by omega), fun w2 => fin ?_, fun w2 => ⟨fun w3 => ?_, fun w3 => ?_⟩⟩
          · have : j = zs g := by omega
            subst this; exact hR2
          · rcases RM_gr hR2 with ⟨z1, z2⟩ | ⟨z1, z2⟩
            · exact absurd z1 w3
            · have hz := foldP_none z2 (zs g - j)
              rw [show j + (zs g - j) = zs g by omega] at hz
              exact fin (by rw [hz]; exact RM_none z1)
          · subst w3
            obtain ⟨x2, x3, x4⟩ := Inv_row h hg (show j < zs g by omega)
            refine M_mul_ok y2 x3 y1 x2 y3 x4 fun gr' u' d' xx' hT => RM_put hR2 (by omega) hT fun m' g' u'' d'' w' hR' x ex => ?_
            rw [nI_1] at ex
            refine hs2 _ _ _ _ _ _ _ ⟨j + 1, ex, by omega, hR'⟩ ?_
            show zs g - x.toNatClampNeg < zs g - (nI j).toNatClampNeg
            rw [ex, nI_clamp (by omega), nI_clamp (by omega)]; omega
    · refine ⟨.inl 2, fun s q => (by cases q), fun e q => (by cases q; exact Or.inr rfl), ?_, ?_⟩
      · intro size tooG rows taken post postx hk
        unfold wp_G_times
        exact G_reqF_ok hn hm (fun _ => G_reqF_ok hn hm (fun _ => G_reqR_ok hn hm (fun w => absurd w (by omega)) (fun _ => hk _ _ _ _)) (fun w => absurd hp.2 w)) (fun w => absurd hp.1 w)
      · intro code qmade great up down work xx post hk
        unfold wp_M_times
        exact M_may_ok hn hfn (fun w => absurd hp w) (fun _ _ _ => ⟨fun w => absurd rfl w, fun _ => hk _ _ _ _ _ _ _ _ _ _ _ ⟨rfl, rfl, rfl, rfl⟩⟩) (fun _ _ w => absurd w (by omega))
  · refine ⟨.inl 1, fun s q => (by cases q), fun e q => (by cases q; exact Or.inl rfl), ?_, ?_⟩
    · intro size tooG rows taken post postx hk
      unfold wp_G_times
      exact G_reqF_ok hn hm (fun w1 => G_reqF_ok hn hm (fun w2 => absurd ⟨w1, w2⟩ hp) (fun _ => hk _ _ _ _)) (fun _ => hk _ _ _ _)
    · intro code qmade great up down work xx post hk
      unfold wp_M_times
      exact M_may_ok hn hfn (fun _ => ⟨fun w => absurd rfl w, fun _ => hk _ _ _ _ _ _ _ _ _ _ _ ⟨rfl, rfl, rfl, rfl⟩⟩) (fun w1 w2 _ => absurd ⟨w1, w2⟩ hp) (fun w1 w2 _ => absurd ⟨w1, w2⟩ hp)
end Tm
theorem red_neg {a b : Int} (hb : b ≠ 0) : redU (-a) (-b) = redU a b ∧ redD (-a) (-b) = redD a b := by
  have e : Int.gcd (-a) (-b) = Int.gcd a b := by rw [Int.gcd_neg, Int.neg_gcd]
  have s : sgD (-b) (Int.gcd a b) = -sgD b (Int.gcd a b) := by
    unfold sgD
    by_cases c : b < 0
    · rw [if_pos c, if_neg (by omega)]; omega
    · rw [if_neg c, if_pos (by omega)]
  unfold redU redD
  rw [e, s, Int.tdiv_neg, Int.tdiv_neg, Int.neg_tdiv, Int.neg_tdiv, Int.neg_neg, Int.neg_neg]
  exact ⟨rfl, rfl⟩
theorem mkT_neg {t : Nat → Int32} {a b : Int} {dl : Nat → Int} (h6 : (t 6).toInt ≠ 0) (hb : b ≠ 0) : mkT t (-a) (-b) dl = mkT t a b dl := by
  obtain ⟨r1, r2⟩ := red_neg (a := (t 5).toInt * a) (b := (t 6).toInt * b) (Int.mul_ne_zero h6 hb)
  have : mulN (-a) (-b) (some t) = mulN a b (some t) := by
    show (if _ then none else some _) = (if _ then none else some _)
    rw [Int.mul_neg, Int.mul_neg, r1, r2]
  unfold mkT; rw [this]
