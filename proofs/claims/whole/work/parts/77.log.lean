/-! logarithm, on both sides. -/
def lgC (w : Nat) : Nat := if w < 2 then 2 else w + 1
def lgP (w : Nat) : Int := if w = 0 then 2 else 1
def putG (t : Nat → Int32) (w : Nat) (s : Sst) : Sst := if t w = 0 then s else putS s (rais (lgC w) (lgP w) (mulN (t w).toInt 1 (some oneT)))
def foldG (t : Nat → Int32) : Nat → Sst → Sst
  | 0, s => s
  | w + 1, s => putG t w (foldG t w s)
def hlg (kept : Nat → Int32) (f z : Nat) : Prop := z = 1 ∧ kept (70 * f + 5) = 1 ∧ kept (70 * f + 6) = 1 ∧ kept (70 * f + 4) = 0
section Lo
variable {n : Nat} {zs : Nat → Nat} {made funs : Int32} {kept sizes qsize qrows : Nat → Int32}
theorem G_lg_ok {s : Sst} {c w : Nat} {size tooG p0 p1 p2 : Int32} {rows taken t : Nat → Int32} {post : Int32 → Int32 → (Nat → Int32) → (Nat → Int32) → Prop} (hw : w < 4) (hR : RC s c size tooG rows) (hc : c < 100) (ht : wfr t 0) (h0 : p0 = t w) (h1 : p1 = nI (lgC w)) (h2 : p2.toInt = lgP w)
    (k : ∀ size' tooG' rows' taken', RC (putG t w s) (c + 1) size' tooG' rows' → post size' tooG' rows' taken') : wp_G_putMultiple size tooG rows taken p0 p1 p2 post := by
  have a := (wfr0 ht).1 w (by omega)
  unfold wfe at a
  have b : lgP w = 1 ∨ lgP w = 2 := by unfold lgP; split <;> omega
  have c5 : lgC w < 5 := by unfold lgC; split <;> omega
  subst h0; subst h1
  refine G_putMul_ok hR hc c5 (by omega) (by omega) (fun q _ tk => k _ _ _ _ ?_) (fun q s' t' r' k' hR' => k _ _ _ _ ?_)
  · unfold putG
    rw [if_pos q]
    obtain ⟨z, a1, a2, a3, a4⟩ := hR
    exact ⟨z, a1, by omega, a3, a4⟩
  · unfold putG
    rw [if_neg q, ← h2]; exact hR'
theorem M_lg_loop {s : Sst} {c w f : Nat} {mk gr : Int32} {up down : Int64} {wk xx t : Nat → Int32} {ih : Int32 → Int32 → Int32 → Int64 → Int64 → (Nat → Int32) → (Nat → Int32) → Prop} (hw : w < 4) (hf : 70 * f + 7 ≤ 5600) (et : eqp 7 (fun j => qrows (70 * f + 7 * 0 + j)) t) (hR : RM s c mk gr wk) (hc : c < 100) (ht : wfr t 0) (h0 : ¬ t w = 0)
    (k : ∀ mk' gr' up' down' wk' xx', RM (putG t w s) (c + 1) mk' gr' wk' → wj_M_logarithm_164 (nI w) ih mk' gr' up' down' wk' xx') :
    ∃ n : Nat, lpW2 (wb_M_logarithm_93 (nI w) qrows (nI f) mk gr up down wk ih) n (0 : Int32) xx := by
  have a := (wfr0 ht).1 w (by omega)
  unfold wfe at a
  have hne := i_ne0 h0
  have b : lgP w = 1 ∨ lgP w = 2 := by unfold lgP; split <;> omega
  have c5l : lgC w < 5 := by unfold lgC; split <;> omega
  obtain ⟨t', q1, q2, q3⟩ := oMul_eq (c := lgC w) (y := lgP w) (a := (t w).toInt) c5l (by omega) (by omega) hne
  have hp : putG t w s = putS s (some t') := by unfold putG; rw [if_neg h0, q1]
  rw [hp] at k
  have etw := et w (by omega)
  dsimp only at etw
  have c6 : (6 : Int32).toNatClampNeg = 6 := by decide
  have c5' : (5 : Int32).toNatClampNeg = 5 := by decide
  have c2 : (2 : Int32).toNatClampNeg = 2 := by decide
  have tail : ∀ x : Nat → Int32, (∀ j, j < 5 → x j = mT (lgC w) (lgP w) (t w).toInt j) → wj_M_logarithm_139 qrows (nI f) (nI w) x mk gr up down wk ih := by
    intro x hx
    unfold wj_M_logarithm_139
    refine M_at_ok (i := 0) (by omega) ⟨in5_7, fun y ey => ⟨in6_7, fun y2 ey2 => RM_put hR hc (Or.inr ⟨t', rfl, rfl, q3, fun j hj => ?_⟩) fun a b c d e hR' => k _ _ _ _ _ _ hR'⟩⟩
    rw [c5'] at ey
    rw [c6] at ey2
    rw [q2 j hj, ey2, ey]
    rcases (show j < 5 ∨ j = 5 ∨ j = 6 by omega) with z | z | z
    · rw [pk_un (by omega), pk_un (by omega)]; exact hx j z
    · rw [z, pk_un (by omega), pk_us, etw]; unfold mT; rw [if_neg (by omega), if_neg (by omega), if_pos rfl, Int32.ofInt_toInt]
    · rw [z, pk_us]; unfold mT; rw [if_neg (by omega), if_neg (by omega), if_neg (by omega)]
  refine lpW2_ex _ (fun v x => ∃ e : Nat, v = nI e ∧ e ≤ 5 ∧ ∀ j, j < e → x j = 0) (fun v _ => 5 - v.toNatClampNeg) ?_ _ _ ⟨0, nI_0.symm, by omega, fun j hj => absurd hj (Nat.not_lt_zero j)⟩
  rintro ih2 v x ⟨e, rfl, he, g⟩ hs
  unfold wb_M_logarithm_93
  have cw : (2 : Int32) ≤ nI w ↔ 2 ≤ w := by
    have : (2 : Int32) = nI 2 := rfl
    rw [this]; exact nI_leI (by omega) (by omega)
  rw [five_le he, cw]
  refine ⟨fun c1 => ⟨fun c2' => ?_, fun c2' => ?_⟩, fun c1 => ⟨vp_in_nI (by omega) (by omega), fun y ey x72 e72 => ?_⟩⟩
  · rw [nI_1, nI_clamp (by omega)]
    refine ⟨vp_in_nI (by omega) (by omega), fun y ey => tail y fun j hj => ?_⟩
    have el : lgC w = w + 1 := by unfold lgC; rw [if_neg (by omega)]
    rw [ey, el]
    unfold mT
    by_cases z : j = w + 1
    · rw [if_pos z, z, pk_us]; unfold lgP; rw [if_neg (by omega)]; decide
    · rw [if_neg z, pk_un z, if_pos hj]; exact g j (by omega)
  · rw [c2]
    refine ⟨pk_in 2 7 (by omega), fun y ey => tail y fun j hj => ?_⟩
    have el : lgC w = 2 := by unfold lgC; rw [if_pos (by omega)]
    rw [ey, el]
    unfold mT
    by_cases z : j = 2
    · rw [if_pos z, z, pk_us]
      rcases (show w = 0 ∨ w = 1 by omega) with q | q <;> rw [q] <;> decide
    · rw [if_neg z, pk_un z, if_pos hj]; exact g j (by omega)
  · rw [nI_1] at e72
    rw [nI_clamp (by omega)] at ey
    refine hs _ _ ⟨e + 1, e72, by omega, fun j hj => ?_⟩ ?_
    · rw [ey]
      by_cases q : j = e
      · rw [q, pk_us]
      · rw [pk_un q]; exact g j (by omega)
    · show 5 - x72.toNatClampNeg < 5 - (nI e).toNatClampNeg
      rw [e72, nI_clamp (by omega), nI_clamp (by omega)]; omega
theorem G_hasLog_ok {f z : Nat} {post : Int32 → Prop} (hf : f < 80) (hs : sizes f = nI z) (hz : z ≤ 10) (k1 : hlg kept f z → post 1) (k0 : ¬ hlg kept f z → post 0) : wp_G_hasLogarithm kept sizes (nI f) post := by
  unfold wp_G_hasLogarithm
  refine G_rowOf_ok (i := 0) ⟨vp_in_nI (by omega) (by omega), ?_⟩
  rw [Nat.mul_zero, Nat.add_zero, nI_clamp (by omega), hs, nI1 hz, show nI (70 * f) + 5 = nI (70 * f + 5) from nI_add _ 5, show nI (70 * f) + 6 = nI (70 * f + 6) from nI_add _ 6, show nI (70 * f) + 4 = nI (70 * f + 4) from nI_add _ 4, nI_clamp (by omega), nI_clamp (by omega), nI_clamp (by omega)]
  refine ⟨fun q => k0 fun w => q w.1, fun q1 => ⟨vp_in_nI (by omega) (by omega), fun q => k0 fun w => q w.2.1, fun q2 => ⟨vp_in_nI (by omega) (by omega), fun q => k0 fun w => q w.2.2.1, fun q3 => ⟨vp_in_nI (by omega) (by omega), fun q => k0 fun w => q w.2.2.2, fun q4 => k1 ⟨q1, q2, q3, q4⟩⟩⟩⟩⟩
theorem logarithm_pair (h : InvK n zs made kept sizes funs qsize qrows) (p : Int32) : ∃ o : Oc, (∀ s, o = .inr (some s) → n < 80) ∧ (∀ e, o = .inl e → e = 1 ∨ e = 2) ∧
    (∀ size tooG rows taken post postx, GOK o n made kept sizes "java/lang/IndexOutOfBoundsException" (fun r m k z => ∀ a b c d, post r m a b k z c d) (fun E => ∀ a b c d, postx E made a b kept sizes c d) → wp_G_logarithm made size tooG kept sizes rows taken p post postx) ∧
    (∀ code qmade great up down work xx post, (∀ b code' funs' qmade' great' up' down' size' rows' work' xx', MR o n funs qsize qrows b code' funs' size' rows' → post b code' funs' qmade' great' up' down' size' rows' work' xx') → wp_M_logarithm code funs qmade great up down qsize qrows work xx p post) := by
  have hn := h.1
  have hm := h.2.1
  have hfn := h.2.2.1
  by_cases hp : isH p n
  · rcases Nat.lt_or_ge n 80 with h80 | h80
    · obtain ⟨f, hf, rfl⟩ := hp
      obtain ⟨a1, a2, a3, a4, a5⟩ := h.2.2.2 f hf
      have e4 : (4 : Int32) = nI 4 := rfl
      by_cases hl : hlg kept f (zs f)
      · obtain ⟨y1, y2, y3⟩ := Inv_row h hf (show 0 < zs f by rw [hl.1]; omega)
        refine ⟨.inr (some (foldG (rowT kept f 0) 4 s0)), fun _ _ => h80, fun e q => (by cases q), ?_, ?_⟩
        · intro size tooG rows taken post postx hk
          unfold wp_G_logarithm
          refine G_reqF_ok hn hm (fun _ => G_reqR_ok hn hm (fun _ => G_hasLog_ok (by omega) a2 a1 (fun _ => ⟨fun _ => G_rowOf_ok (i := 0) ?_, fun w => absurd w (by decide)⟩) (fun w => absurd hl w)) (fun w => absurd w (by omega))) (fun w => absurd ⟨f, hf, rfl⟩ w)
          unfold wp_W_begin
          rw [show nI (70 * f + 7 * 0) + 0 = nI (70 * f + 7 * 0 + 0) from nI_add _ 0, show nI (70 * f + 7 * 0) + 1 = nI (70 * f + 7 * 0 + 1) from nI_add _ 1, show nI (70 * f + 7 * 0) + 2 = nI (70 * f + 7 * 0 + 2) from nI_add _ 2, show nI (70 * f + 7 * 0) + 3 = nI (70 * f + 7 * 0 + 3) from nI_add _ 3, nI_clamp (by omega), nI_clamp (by omega), nI_clamp (by omega), nI_clamp (by omega)]
          refine ⟨vp_in_nI (by omega) (by omega), G_lg_ok (w := 0) (by omega) (RC_0 rows) (by omega) y1 rfl rfl rfl fun s1 t1 r1 k1 hR1 => ?_⟩
          refine ⟨vp_in_nI (by omega) (by omega), G_lg_ok (w := 1) (by omega) hR1 (by omega) y1 rfl rfl rfl fun s2 t2 r2 k2 hR2 => ?_⟩
          refine ⟨vp_in_nI (by omega) (by omega), G_lg_ok (w := 2) (by omega) hR2 (by omega) y1 rfl rfl rfl fun s3 t3 r3 k3 hR3 => ?_⟩
          refine ⟨vp_in_nI (by omega) (by omega), G_lg_ok (w := 3) (by omega) hR3 (by omega) y1 rfl rfl rfl fun s4 t4 r4 k4 hR4 => ?_⟩
          exact G_keep_ok hR4 (by omega) h80 hm (fun w => hk.1 w _ _ _ _) (fun z f' kept' w1 w2 w3 w4 => hk.2 z f' kept' w1 w2 w3 w4 _ _ _ _)
        · intro code qmade great up down work xx post hk
          have z1 := hl.1
          have r5 : qrows (70 * f + 7 * 0 + 5) = 1 := (y3 5 (by omega)).trans hl.2.1
          have r6 : qrows (70 * f + 7 * 0 + 6) = 1 := (y3 6 (by omega)).trans hl.2.2.1
          have r4 : qrows (70 * f + 7 * 0 + 4) = 0 := (y3 4 (by omega)).trans hl.2.2.2
          unfold wp_M_logarithm
          refine M_may_ok hn hfn (fun w => absurd ⟨⟨f, hf, rfl⟩, ⟨f, hf, rfl⟩⟩ w) (fun _ _ w => absurd w (by omega)) (fun _ _ _ => ⟨fun _ => ⟨vp_in_nI (by omega) (by omega), ?_⟩, fun w => absurd w (by decide)⟩)
          rw [nI_clamp (by omega), a3, nI1 a1]
          refine ⟨fun w => absurd z1 w, fun _ => M_at_ok (i := 0) (j := 5) (by omega) ⟨fun w => absurd r5 w, fun _ => M_at_ok (i := 0) (j := 6) (by omega) ⟨fun w => absurd r6 w, fun _ => M_at_ok (i := 0) (j := 4) (by omega) ⟨fun w => absurd r4 w, fun _ => ?_⟩⟩⟩⟩
          unfold wj_M_logarithm_59 wp_M_start
          refine lpW7_ex _ (fun v mk gr _ _ wk _ => ∃ i : Nat, v = nI i ∧ i ≤ 4 ∧ RM (foldG (rowT kept f 0) i s0) i mk gr wk) (fun v _ _ _ _ _ _ => 4 - v.toNatClampNeg) ?_ _ _ _ _ _ _ _ ⟨0, nI_0.symm, by omega, RM_0 work⟩
          rintro ih v mk gr u1 d1 wk x1 ⟨i, rfl, hi, hR⟩ hs
          unfold wb_M_logarithm_72
          have c4 : (4 : Int32) ≤ nI i ↔ 4 ≤ i := by
            rw [e4]; exact nI_leI (by omega) (by omega)
          rw [c4]
          refine ⟨fun w => ?_, fun w => ?_⟩
          · have : i = 4 := by omega
            subst this
            exact M_keep_ok hR (by omega) h80 hfn (fun w3 => hk _ _ _ _ _ _ _ _ _ _ _ (Or.inl ⟨w3, rfl, rfl, rfl, rfl⟩)) (fun z f' rows' w3 w4 w5 w6 => hk _ _ _ _ _ _ _ _ _ _ _ (Or.inr ⟨z, f', w3, w4, w5, rfl, rfl, rfl, w6, rfl⟩))
          · have nx : ∀ mk' gr' up' down' wk' xx', RM (putG (rowT kept f 0) i (foldG (rowT kept f 0) i s0)) (i + 1) mk' gr' wk' → wj_M_logarithm_164 (nI i) ih mk' gr' up' down' wk' xx' := by
              intro mk' gr' up' down' wk' xx' hF
              unfold wj_M_logarithm_164
              intro x ex
              rw [nI_1] at ex
              refine hs _ _ _ _ _ _ _ ⟨i + 1, ex, by omega, hF⟩ ?_
              show 4 - x.toNatClampNeg < 4 - (nI i).toNatClampNeg
              rw [ex, nI_clamp (by omega), nI_clamp (by omega)]; omega
            have yi := y3 i (by omega)
            dsimp only at yi
            refine M_at_ok (i := 0) (by omega) ⟨fun q => M_lg_loop (by omega) (by omega) y3 hR (by omega) y1 (by rw [← yi]; exact q) nx, fun q => nx _ _ _ _ _ _ ?_⟩
            unfold putG
            rw [if_pos (by rw [← yi]; exact q)]
            rcases hR with z | ⟨z, g, b1, b2, b3⟩
            · exact Or.inl z
            · exact Or.inr ⟨z, g, b1, by omega, b3⟩
      · refine ⟨.inr none, fun s q => (by cases q), fun e q => (by cases q), ?_, ?_⟩
        · intro size tooG rows taken post postx hk
          unfold wp_G_logarithm
          exact G_reqF_ok hn hm (fun _ => G_reqR_ok hn hm (fun _ => G_hasLog_ok (by omega) a2 a1 (fun w => absurd w hl) (fun _ => ⟨fun w => absurd rfl w, fun _ => hk _ _ _ _⟩)) (fun w => absurd w (by omega))) (fun w => absurd ⟨f, hf, rfl⟩ w)
        · intro code qmade great up down work xx post hk
          unfold wp_M_logarithm
          refine M_may_ok hn hfn (fun w => absurd ⟨⟨f, hf, rfl⟩, ⟨f, hf, rfl⟩⟩ w) (fun _ _ w => absurd w (by omega)) (fun _ _ _ => ⟨fun _ => ⟨vp_in_nI (by omega) (by omega), ?_⟩, fun w => absurd w (by decide)⟩)
          have out : post (-1) 0 funs qmade great up down qsize qrows work xx := hk _ _ _ _ _ _ _ _ _ _ _ ⟨rfl, rfl, rfl, rfl, rfl⟩
          rw [nI_clamp (by omega), a3, nI1 a1]
          refine ⟨fun _ => out, fun q1 => ?_⟩
          obtain ⟨y1, y2, y3⟩ := Inv_row h hf (show 0 < zs f by omega)
          refine M_at_ok (i := 0) (j := 5) (by omega) ⟨fun _ => out, fun q2 => M_at_ok (i := 0) (j := 6) (by omega) ⟨fun _ => out, fun q3 => M_at_ok (i := 0) (j := 4) (by omega) ⟨fun _ => out, fun q4 => ?_⟩⟩⟩
          exact absurd ⟨q1, (y3 5 (by omega)).symm.trans q2, (y3 6 (by omega)).symm.trans q3, (y3 4 (by omega)).symm.trans q4⟩ hl
    · refine ⟨.inl 2, fun s q => (by cases q), fun e q => (by cases q; exact Or.inr rfl), ?_, ?_⟩
      · intro size tooG rows taken post postx hk
        unfold wp_G_logarithm
        exact G_reqF_ok hn hm (fun _ => G_reqR_ok hn hm (fun w => absurd w (by omega)) (fun _ => hk _ _ _ _)) (fun w => absurd hp w)
      · intro code qmade great up down work xx post hk
        unfold wp_M_logarithm
        exact M_may_ok hn hfn (fun w => absurd ⟨hp, hp⟩ w) (fun _ _ _ => ⟨fun w => absurd rfl w, fun _ => hk _ _ _ _ _ _ _ _ _ _ _ ⟨rfl, rfl, rfl, rfl⟩⟩) (fun _ _ w => absurd w (by omega))
  · refine ⟨.inl 1, fun s q => (by cases q), fun e q => (by cases q; exact Or.inl rfl), ?_, ?_⟩
    · intro size tooG rows taken post postx hk
      unfold wp_G_logarithm
      exact G_reqF_ok hn hm (fun w1 => absurd w1 hp) (fun _ => hk _ _ _ _)
    · intro code qmade great up down work xx post hk
      unfold wp_M_logarithm
      exact M_may_ok hn hfn (fun _ => ⟨fun w => absurd rfl w, fun _ => hk _ _ _ _ _ _ _ _ _ _ _ ⟨rfl, rfl, rfl, rfl⟩⟩) (fun w1 _ _ => absurd w1 hp) (fun w1 _ _ => absurd w1 hp)
end Lo
