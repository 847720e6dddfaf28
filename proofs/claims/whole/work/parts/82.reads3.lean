/-! compare, ratio, same. -/
section Rd3
variable {n : Nat} {zs : Nat → Nat} {made funs : Int32} {kept sizes qsize qrows : Nat → Int32}
def cmT (kept : Nat → Int32) (f zf g zg : Nat) : Int32 := if zf = 0 then (if zg = 0 then 0 else -1) else if zg = 0 then 1 else rank kept (70 * f) kept (70 * g)
theorem G_cmp_ok {f g zf zg : Nat} {post : Int32 → Prop} (hf : f < 80) (hg : g < 80) (sf : sizes f = nI zf) (sg : sizes g = nI zg) (bf : zf ≤ 10) (bg : zg ≤ 10) (k : post (cmT kept f zf g zg)) : wp_G_rankOf kept sizes (nI f) (nI g) post := by
  unfold wp_G_rankOf
  unfold cmT at k
  rw [nI_clamp (by omega), nI_clamp (by omega), sf, sg, nI_is0 bf, nI_is0 bg]
  refine ⟨vp_in_nI (by omega) (by omega), fun q => ⟨vp_in_nI (by omega) (by omega), fun q2 => G_rowOf_ok (i := 0) (G_rowOf_ok (i := 0) (G_rank_kk_ok (by omega) (by omega) ?_)), fun q2 => ?_⟩, fun q => ⟨vp_in_nI (by omega) (by omega), fun q2 => ?_, fun q2 => ?_⟩⟩
  · rw [if_neg q, if_neg q2] at k; exact k
  · rw [if_neg q, if_pos q2] at k; exact k
  · rw [if_pos q, if_neg q2] at k; exact k
  · rw [if_pos q, if_pos q2] at k; exact k
theorem M_cmp_ok {f g zf zg : Nat} {post : Int32 → Prop} (hf : f < 80) (hg : g < 80) (sf : qsize f = nI zf) (sg : qsize g = nI zg) (bf : zf ≤ 10) (bg : zg ≤ 10) (k : post (cmT qrows f zf g zg)) : wp_M_compared qsize qrows (nI f) (nI g) post := by
  unfold wp_M_compared wj_M_compared_18
  unfold cmT at k
  rw [nI_clamp (by omega), nI_clamp (by omega), sf, sg, nI_is0 bf, nI_is0 bg, nI_le0 bf, nI_le0 bg]
  refine ⟨vp_in_nI (by omega) (by omega), fun q => ⟨vp_in_nI (by omega) (by omega), fun _ => ⟨vp_in_nI (by omega) (by omega), fun q2 => ?_, fun q2 => ?_⟩, fun q2 => absurd q q2⟩, fun q => ⟨vp_in_nI (by omega) (by omega), fun q2 => ?_, fun q2 => ⟨vp_in_nI (by omega) (by omega), fun q3 => absurd q3 q, fun _ => ?_⟩⟩⟩
  · rw [if_pos q, if_pos q2] at k; exact k
  · rw [if_pos q, if_neg q2] at k; exact k
  · rw [if_neg q, if_neg q2] at k
    refine lpW1_ex _ (fun i => ∃ e : Nat, i = nI e ∧ e ≤ 5 ∧ c5 (fun e => qrows (70 * f + e)) (fun e => qrows (70 * g + e)) (5 - e) e = rank qrows (70 * f) qrows (70 * g)) (fun i => 5 - i.toNatClampNeg) ?_ _ ⟨0, nI_0.symm, by omega, rfl⟩
    rintro ih i ⟨e, rfl, he, hc⟩ hs
    unfold wb_M_compared_48
    rw [five_le he]
    constructor
    · intro c
      have : e = 5 := by omega
      subst this
      rw [show c5 (fun e => qrows (70 * f + e)) (fun e => qrows (70 * g + e)) (5 - 5) 5 = 0 from rfl] at hc
      rw [← hc] at k; exact k
    · intro c
      obtain ⟨m, hm⟩ : ∃ m, 5 - e = m + 1 := ⟨5 - e - 1, by omega⟩
      have hm2 : m = 5 - (e + 1) := by omega
      rw [hm] at hc
      unfold c5 at hc
      refine M_at_ok (i := 0) (by omega) (M_at_ok (i := 0) (by omega) ?_)
      rw [Nat.mul_zero, Nat.add_zero, Nat.add_zero]
      refine ⟨?_, ?_⟩
      · intro q3 x ex
        rw [if_pos q3] at hc
        rw [nI_1] at ex
        refine hs _ ⟨e + 1, ex, by omega, by rw [← hm2]; exact hc⟩ ?_
        show 5 - x.toNatClampNeg < 5 - (nI e).toNatClampNeg
        rw [ex, nI_clamp (by omega), nI_clamp (by omega)]; omega
      · intro q3
        rw [if_neg q3] at hc
        refine M_at_ok (i := 0) (by omega) (M_at_ok (i := 0) (by omega) ?_)
        rw [Nat.mul_zero, Nat.add_zero, Nat.add_zero]
        refine ⟨?_, ?_⟩
        · intro z; rw [if_pos z] at hc; rw [hc]; exact k
        · intro z; rw [if_neg z] at hc; rw [hc]; exact k
  · rw [if_neg q, if_pos q2] at k; exact k
theorem cmT_eq (h : InvK n zs made kept sizes funs qsize qrows) {f g : Nat} (hf : f < n) (hg : g < n) : cmT qrows f (zs f) g (zs g) = cmT kept f (zs f) g (zs g) := by
  unfold cmT
  by_cases q : zs f = 0
  · rw [if_pos q, if_pos q]
  · by_cases q2 : zs g = 0
    · rw [if_neg q, if_neg q, if_pos q2, if_pos q2]
    · rw [if_neg q, if_neg q, if_neg q2, if_neg q2]
      exact rank_congr (fun j hj => (Inv_r0 h hf q).2 j (by omega)) (fun j hj => (Inv_r0 h hg q2).2 j (by omega))
theorem compare_read (h : InvK n zs made kept sizes funs qsize qrows) (p q : Int32) : ∃ o : Int32 ⊕ Int32, (∀ e, o = .inl e → e = 1) ∧
    (∀ post postx, RG o eI post postx → wp_G_compare made kept sizes p q post postx) ∧ (∀ code post, RQ o post → wp_M_compare code funs qsize qrows p q post) := by
  have hn := h.1
  have hm := h.2.1
  have hfn := h.2.2.1
  by_cases hp : isH p n ∧ isH q n
  · obtain ⟨⟨f, hf, rfl⟩, ⟨g, hg, rfl⟩⟩ := hp
    obtain ⟨a1, a2, a3, a4, a5⟩ := h.2.2.2 f hf
    obtain ⟨b1, b2, b3, b4, b5⟩ := h.2.2.2 g hg
    refine ⟨.inr (cmT kept f (zs f) g (zs g)), fun e q => (by cases q), fun post postx hk => ?_, fun code post hk => ?_⟩
    · unfold wp_G_compare
      exact G_reqF_ok hn hm (fun _ => G_reqF_ok hn hm (fun _ => G_cmp_ok (by omega) (by omega) a2 b2 a1 b1 hk) (fun w => absurd ⟨g, hg, rfl⟩ w)) (fun w => absurd ⟨f, hf, rfl⟩ w)
    · unfold wp_M_compare
      exact M_isF_ok hn hfn (fun _ => ⟨fun w => absurd w (by decide), fun _ => M_isF_ok hn hfn (fun _ => ⟨fun w => absurd w (by decide), fun _ => M_cmp_ok (by omega) (by omega) a3 b3 a1 b1 (by rw [cmT_eq h hf hg]; exact hk)⟩) (fun w => absurd ⟨g, hg, rfl⟩ w)⟩) (fun w => absurd ⟨f, hf, rfl⟩ w)
  · refine ⟨.inl 1, fun e q => (by cases q; rfl), fun post postx hk => ?_, fun code post hk => ?_⟩
    · unfold wp_G_compare
      exact G_reqF_ok hn hm (fun w1 => G_reqF_ok hn hm (fun w2 => absurd ⟨w1, w2⟩ hp) (fun _ => hk)) (fun _ => hk)
    · unfold wp_M_compare
      exact M_isF_ok hn hfn (fun w1 => ⟨fun w => absurd w (by decide), fun _ => M_isF_ok hn hfn (fun w2 => absurd ⟨w1, w2⟩ hp) (fun _ => ⟨fun _ => hk _, fun w => absurd rfl w⟩)⟩) (fun _ => ⟨fun _ => hk _, fun w => absurd rfl w⟩)
def RL (o : Int32 ⊕ Int64) (post : Int64 → Int32 → Int64 → Int64 → Prop) : Prop := match o with
  | .inl e => ∀ b u d, post b e u d
  | .inr a => ∀ u d, post a 0 u d
theorem ratio_read (h : InvK n zs made kept sizes funs qsize qrows) (p q r : Int32) : ∃ o : Int32 ⊕ Int64, (∀ e, o = .inl e → e = 1 ∨ e = 2 ∨ e = 3) ∧
    (∀ post postx, RG o eI post postx → wp_G_ratio made kept sizes p q r post postx) ∧ (∀ code up down post, RL o post → wp_M_ratio code funs up down qsize qrows p q r post) := by
  have hn := h.1
  have hm := h.2.1
  have hfn := h.2.2.1
  by_cases hp : isH p n ∧ isH q n
  · obtain ⟨⟨f, hf, rfl⟩, ⟨g, hg, rfl⟩⟩ := hp
    obtain ⟨a1, a2, a3, a4, a5⟩ := h.2.2.2 f hf
    obtain ⟨b1, b2, b3, b4, b5⟩ := h.2.2.2 g hg
    have ce := cmT_eq h hf hg
    by_cases hc : (zs f ≠ 0 ∧ zs g ≠ 0) ∧ cmT kept f (zs f) g (zs g) = 0
    · obtain ⟨⟨hz1, hz2⟩, hc0⟩ := hc
      by_cases hr : r = 0 ∨ r = 1
      · obtain ⟨⟨-, f2, f3, f4, f5⟩, fr⟩ := Inv_r0 h hf hz1
        obtain ⟨⟨-, g2, g3, g4, g5⟩, gr⟩ := Inv_r0 h hg hz2
        obtain ⟨A, hA⟩ : ∃ A, A = (kept (70 * f + 5)).toInt * (kept (70 * g + 6)).toInt := ⟨_, rfl⟩
        obtain ⟨B, hB⟩ : ∃ B, B = (kept (70 * f + 6)).toInt * (kept (70 * g + 5)).toInt := ⟨_, rfl⟩
        have bA : A.natAbs ≤ 1000000 * 1000000 := by rw [hA]; exact mul_bd f3 (by omega)
        have bB : B.natAbs ≤ 1000000 * 1000000 := by rw [hB]; exact mul_bd (by omega) g3
        have hB0 : B ≠ 0 := by rw [hB]; exact Int.mul_ne_zero (by omega) g2
        have eA : ((kept (70 * f + 5)).toInt64 * (kept (70 * g + 6)).toInt64).toInt = A := by rw [hA, ll_mul (i_abs _) (i_abs _)]
        have eB : ((kept (70 * f + 6)).toInt64 * (kept (70 * g + 5)).toInt64).toInt = B := by rw [hB, ll_mul (i_abs _) (i_abs _)]
        refine ⟨.inr (Int64.ofInt (if r = 0 then redU A B else redD A B)), fun e q => (by cases q), fun post postx hk => ?_, fun code up down post hk => ?_⟩
        · have hk' : post (Int64.ofInt (if r = 0 then redU A B else redD A B)) := hk
          unfold wp_G_ratio
          refine G_reqF_ok hn hm (fun _ => G_reqF_ok hn hm (fun _ => ⟨vp_in_nI (by omega) (by omega), ?_⟩) (fun w => absurd ⟨g, hg, rfl⟩ w)) (fun w => absurd ⟨f, hf, rfl⟩ w)
          rw [nI_clamp (by omega), nI_clamp (by omega), a2, b2, nI_is0 a1, nI_is0 b1]
          refine ⟨fun w => absurd w hz1, fun _ => ⟨vp_in_nI (by omega) (by omega), fun w => absurd w hz2, fun _ => G_cmp_ok (by omega) (by omega) a2 b2 a1 b1 ⟨fun _ => G_part_ok (fun _ => G_rowOf_ok (i := 0) (G_rowOf_ok (i := 0) ?_)) (fun w1 w2 => absurd hr (fun w => w.elim w1 w2)), fun w => absurd hc0 w⟩⟩⟩
          rw [Nat.mul_zero, Nat.add_zero, Nat.add_zero, show nI (70 * f) + 5 = nI (70 * f + 5) from nI_add _ 5, show nI (70 * f) + 6 = nI (70 * f + 6) from nI_add _ 6, show nI (70 * g) + 5 = nI (70 * g + 5) from nI_add _ 5, show nI (70 * g) + 6 = nI (70 * g + 6) from nI_add _ 6, nI_clamp (by omega), nI_clamp (by omega), nI_clamp (by omega), nI_clamp (by omega)]
          refine ⟨vp_in_nI (by omega) (by omega), vp_in_nI (by omega) (by omega), fun x ex => ⟨vp_in_nI (by omega) (by omega), vp_in_nI (by omega) (by omega), fun y ey => ?_⟩⟩
          have ex' : x.toInt = A := by rw [ex]; exact eA
          have ey' : y.toInt = B := by rw [ey]; exact eB
          refine G_divisorOf_ok (by rw [ex']; omega) (by rw [ey']; omega) (by rw [ey']; exact hB0) fun d hd => ?_
          rw [ex', ey'] at hd
          have hd0 : d.toInt ≠ 0 := by rw [hd]; exact sgD_ne (gcd_ne hB0)
          refine ⟨fun w => ⟨l_ne hd0, ?_⟩, fun w => ⟨l_ne hd0, ?_⟩⟩
          · rw [if_neg w] at hk'
            have : (y / d) = Int64.ofInt (redD A B) := by
              rw [← Int64.ofInt_toInt (y / d), l_div (by rw [ey']; omega), ey', hd]; rfl
            rw [this]; exact hk'
          · rw [if_pos w] at hk'
            have : (x / d) = Int64.ofInt (redU A B) := by
              rw [← Int64.ofInt_toInt (x / d), l_div (by rw [ex']; omega), ex', hd]; rfl
            rw [this]; exact hk'
        · have hk' : ∀ u d, post (Int64.ofInt (if r = 0 then redU A B else redD A B)) 0 u d := hk
          unfold wp_M_ratio
          refine M_isF_ok hn hfn (fun _ => ⟨fun w => absurd w (by decide), fun _ => M_isF_ok hn hfn (fun _ => ⟨fun _ => ⟨vp_in_nI (by omega) (by omega), ?_⟩, fun w => absurd w (by decide)⟩) (fun w => absurd ⟨g, hg, rfl⟩ w)⟩) (fun w => absurd ⟨f, hf, rfl⟩ w)
          rw [nI_clamp (by omega), nI_clamp (by omega), a3, b3, nI_is0 a1, nI_is0 b1]
          refine ⟨fun w => absurd w hz1, fun _ => ⟨vp_in_nI (by omega) (by omega), fun w => absurd w hz2, fun _ => M_cmp_ok (by omega) (by omega) a3 b3 a1 b1 ?_⟩⟩
          rw [ce]
          refine ⟨fun _ => M_in01 (fun _ => ⟨fun w => absurd w (by decide), fun _ => ?_⟩) (fun w1 w2 => absurd hr (fun w => w.elim w1 w2)), fun w => absurd hc0 w⟩
          unfold wj_M_ratio_73
          refine M_at_ok (i := 0) (j := 5) (by omega) (M_at_ok (i := 0) (j := 6) (by omega) (M_at_ok (i := 0) (j := 6) (by omega) (M_at_ok (i := 0) (j := 5) (by omega) ?_)))
          rw [Nat.mul_zero, Nat.add_zero, Nat.add_zero, fr 5 (by omega), fr 6 (by omega), gr 5 (by omega), gr 6 (by omega)]
          refine M_lowest_ok (by rw [eA]; omega) (by rw [eB]; omega) (by rw [eB]; exact hB0) fun u d hu hd => ?_
          rw [eA, eB] at hu hd
          refine ⟨fun w => ?_, fun w => ?_⟩
          · have := hk' u d
            rw [if_neg w, ← hd, Int64.ofInt_toInt] at this; exact this
          · have := hk' u d
            rw [if_pos w, ← hu, Int64.ofInt_toInt] at this; exact this
      · refine ⟨.inl 3, fun e q => (by cases q; exact Or.inr (Or.inr rfl)), fun post postx hk => ?_, fun code up down post hk => ?_⟩
        · unfold wp_G_ratio
          refine G_reqF_ok hn hm (fun _ => G_reqF_ok hn hm (fun _ => ⟨vp_in_nI (by omega) (by omega), ?_⟩) (fun w => absurd ⟨g, hg, rfl⟩ w)) (fun w => absurd ⟨f, hf, rfl⟩ w)
          rw [nI_clamp (by omega), nI_clamp (by omega), a2, b2, nI_is0 a1, nI_is0 b1]
          exact ⟨fun w => absurd w hz1, fun _ => ⟨vp_in_nI (by omega) (by omega), fun w => absurd w hz2, fun _ => G_cmp_ok (by omega) (by omega) a2 b2 a1 b1 ⟨fun _ => G_part_ok (fun w => absurd w hr) (fun _ _ => hk), fun w => absurd hc0 w⟩⟩⟩
        · unfold wp_M_ratio
          refine M_isF_ok hn hfn (fun _ => ⟨fun w => absurd w (by decide), fun _ => M_isF_ok hn hfn (fun _ => ⟨fun _ => ⟨vp_in_nI (by omega) (by omega), ?_⟩, fun w => absurd w (by decide)⟩) (fun w => absurd ⟨g, hg, rfl⟩ w)⟩) (fun w => absurd ⟨f, hf, rfl⟩ w)
          rw [nI_clamp (by omega), nI_clamp (by omega), a3, b3, nI_is0 a1, nI_is0 b1]
          refine ⟨fun w => absurd w hz1, fun _ => ⟨vp_in_nI (by omega) (by omega), fun w => absurd w hz2, fun _ => M_cmp_ok (by omega) (by omega) a3 b3 a1 b1 ?_⟩⟩
          rw [ce]
          exact ⟨fun _ => M_in01 (fun w => absurd w hr) (fun _ _ => ⟨fun _ => hk _ _ _, fun w => absurd rfl w⟩), fun w => absurd hc0 w⟩
    · refine ⟨.inl 2, fun e q => (by cases q; exact Or.inr (Or.inl rfl)), fun post postx hk => ?_, fun code up down post hk => ?_⟩
      · unfold wp_G_ratio
        refine G_reqF_ok hn hm (fun _ => G_reqF_ok hn hm (fun _ => ⟨vp_in_nI (by omega) (by omega), ?_⟩) (fun w => absurd ⟨g, hg, rfl⟩ w)) (fun w => absurd ⟨f, hf, rfl⟩ w)
        rw [nI_clamp (by omega), nI_clamp (by omega), a2, b2, nI_is0 a1, nI_is0 b1]
        exact ⟨fun _ => hk, fun w1 => ⟨vp_in_nI (by omega) (by omega), fun _ => hk, fun w2 => G_cmp_ok (by omega) (by omega) a2 b2 a1 b1 ⟨fun w3 => absurd ⟨⟨w1, w2⟩, w3⟩ hc, fun _ => hk⟩⟩⟩
      · unfold wp_M_ratio wj_M_ratio_50 wp_M_raise
        refine M_isF_ok hn hfn (fun _ => ⟨fun w => absurd w (by decide), fun _ => M_isF_ok hn hfn (fun _ => ⟨fun _ => ⟨vp_in_nI (by omega) (by omega), ?_⟩, fun w => absurd w (by decide)⟩) (fun w => absurd ⟨g, hg, rfl⟩ w)⟩) (fun w => absurd ⟨f, hf, rfl⟩ w)
        rw [nI_clamp (by omega), nI_clamp (by omega), a3, b3, nI_is0 a1, nI_is0 b1]
        refine ⟨fun _ => hk _ _ _, fun w1 => ⟨vp_in_nI (by omega) (by omega), fun _ => hk _ _ _, fun w2 => M_cmp_ok (by omega) (by omega) a3 b3 a1 b1 ?_⟩⟩
        rw [ce]
        exact ⟨fun w3 => absurd ⟨⟨w1, w2⟩, w3⟩ hc, fun _ => hk _ _ _⟩
  · refine ⟨.inl 1, fun e q => (by cases q; exact Or.inl rfl), fun post postx hk => ?_, fun code up down post hk => ?_⟩
    · unfold wp_G_ratio
      exact G_reqF_ok hn hm (fun w1 => G_reqF_ok hn hm (fun w2 => absurd ⟨w1, w2⟩ hp) (fun _ => hk)) (fun _ => hk)
    · unfold wp_M_ratio wj_M_ratio_16 wp_M_raise
      exact M_isF_ok hn hfn (fun w1 => ⟨fun w => absurd w (by decide), fun _ => M_isF_ok hn hfn (fun w2 => absurd ⟨w1, w2⟩ hp) (fun _ => ⟨fun w => absurd rfl w, fun _ => hk _ _ _⟩)⟩) (fun _ => ⟨fun _ => hk _ _ _, fun w => absurd rfl w⟩)
end Rd3
