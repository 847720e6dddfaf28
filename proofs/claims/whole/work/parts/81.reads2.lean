/-! limit, sign, value, compare, ratio, same. -/
section Rd2
variable {n : Nat} {zs : Nat → Nat} {made funs : Int32} {kept sizes qsize qrows : Nat → Int32}
theorem limit_read (h : InvK n zs made kept sizes funs qsize qrows) (p : Int32) : ∃ o : Int32 ⊕ Int32, (∀ e, o = .inl e → e = 1) ∧
    (∀ post postx, RG o eI post postx → wp_G_limit made kept sizes p post postx) ∧ (∀ code post, RQ o post → wp_M_limit code funs qsize qrows p post) := by
  have hn := h.1
  have hm := h.2.1
  have hfn := h.2.2.1
  by_cases hp : isH p n
  · obtain ⟨f, hf, rfl⟩ := hp
    obtain ⟨a1, a2, a3, a4, a5⟩ := h.2.2.2 f hf
    obtain ⟨e1, e2⟩ := hiT_eq h hf
    refine ⟨.inr (if hiT kept f (zs f) ≤ 0 then 0 else sgT kept f (zs f)), fun e q => (by cases q), fun post postx hk => ?_, fun code post hk => ?_⟩
    · unfold wp_G_limit
      exact G_reqF_ok hn hm (fun _ => G_end_ok (by omega) a2 a1 hk) (fun w => absurd ⟨f, hf, rfl⟩ w)
    · unfold wp_M_limit wj_M_limit_14
      refine M_isF_ok hn hfn (fun _ => ⟨fun w => absurd w (by decide), fun _ => M_high_ok (by omega) a3 a1 ?_⟩) (fun w => absurd ⟨f, hf, rfl⟩ w)
      have hk' : post (if hiT kept f (zs f) ≤ 0 then 0 else sgT kept f (zs f)) 0 := hk
      rw [e1]
      exact ⟨fun w => by rw [if_pos w] at hk'; exact hk', fun w => M_sgn_ok (by omega) a3 a1 (by rw [if_neg w] at hk'; rw [e2]; exact hk')⟩
  · refine ⟨.inl 1, fun e q => (by cases q; rfl), fun post postx hk => ?_, fun code post hk => ?_⟩
    · unfold wp_G_limit
      exact G_reqF_ok hn hm (fun w => absurd w hp) (fun _ => hk)
    · unfold wp_M_limit
      exact M_isF_ok hn hfn (fun w => absurd w hp) (fun _ => ⟨fun _ => hk _, fun w => absurd rfl w⟩)
theorem sign_read (h : InvK n zs made kept sizes funs qsize qrows) (p : Int32) : ∃ o : Int32 ⊕ Int32, (∀ e, o = .inl e → e = 1) ∧
    (∀ post postx, RG o eI post postx → wp_G_sign made kept sizes p post postx) ∧ (∀ code post, RQ o post → wp_M_sign code funs qsize qrows p post) := by
  have hn := h.1
  have hm := h.2.1
  have hfn := h.2.2.1
  by_cases hp : isH p n
  · obtain ⟨f, hf, rfl⟩ := hp
    obtain ⟨a1, a2, a3, a4, a5⟩ := h.2.2.2 f hf
    obtain ⟨e1, e2⟩ := hiT_eq h hf
    refine ⟨.inr (sgT kept f (zs f)), fun e q => (by cases q), fun post postx hk => ?_, fun code post hk => ?_⟩
    · unfold wp_G_sign
      have hk' : post (sgT kept f (zs f)) := hk
      unfold sgT at hk'
      refine G_reqF_ok hn hm (fun _ => ⟨vp_in_nI (by omega) (by omega), ?_⟩) (fun w => absurd ⟨f, hf, rfl⟩ w)
      rw [nI_clamp (by omega), a2, nI_is0 a1]
      exact ⟨fun q => G_rowOf_ok (i := 0) (G_sign_at (by omega) (by rw [if_neg q] at hk'; rw [Nat.mul_zero, Nat.add_zero]; exact hk')), fun q => by rw [if_pos q] at hk'; exact hk'⟩
    · unfold wp_M_sign
      exact M_isF_ok hn hfn (fun _ => ⟨fun w => absurd w (by decide), fun _ => M_sgn_ok (by omega) a3 a1 (by rw [e2]; exact hk)⟩) (fun w => absurd ⟨f, hf, rfl⟩ w)
  · refine ⟨.inl 1, fun e q => (by cases q; rfl), fun post postx hk => ?_, fun code post hk => ?_⟩
    · unfold wp_G_sign
      exact G_reqF_ok hn hm (fun w => absurd w hp) (fun _ => hk)
    · unfold wp_M_sign
      exact M_isF_ok hn hfn (fun w => absurd w hp) (fun _ => ⟨fun _ => hk _, fun w => absurd rfl w⟩)
theorem M_in01 {p : Int32} {post : Int32 → Prop} (k1 : (p = 0 ∨ p = 1) → post 1) (k0 : ¬ p = 0 → ¬ p = 1 → post 0) : wp_M_in p.toInt64 0 1 post := by
  have i1 : (1 : Int32).toInt = 1 := by decide
  refine M_in_ok (fun a b => k1 ?_) (fun a => k0 (fun q => a ?_) (fun q => a ?_))
  · rw [l_0, l_of_i] at a
    rw [l_1, l_of_i] at b
    rcases (show p.toInt = 0 ∨ p.toInt = 1 by omega) with q | q
    · exact Or.inl (Int32.toInt_inj.mp (q.trans i_0.symm))
    · exact Or.inr (Int32.toInt_inj.mp (q.trans i1.symm))
  · rw [l_0, l_1, l_of_i, q, i_0]; omega
  · rw [l_0, l_1, l_of_i, q, i1]; omega
theorem G_part_ok {p : Int32} {post : Prop} {postx : String → Prop} (k1 : (p = 0 ∨ p = 1) → post) (k0 : ¬ p = 0 → ¬ p = 1 → postx "java/lang/IllegalArgumentException") : wp_G_requirePart p post postx := by
  unfold wp_G_requirePart
  exact ⟨fun q => k1 (Or.inl q), fun q => ⟨fun q2 => k1 (Or.inr q2), fun q2 => k0 q q2⟩⟩
theorem sg_ne0 {f z : Nat} (hz : z ≠ 0) : sgT kept f z ≠ 0 := by
  unfold sgT
  rw [if_neg hz]
  split <;> decide
theorem end_0 {f z : Nat} : (if hiT kept f z ≤ 0 then 0 else sgT kept f z) = (0 : Int32) ↔ hiT kept f z ≤ 0 := by
  constructor
  · intro q
    refine Classical.byContradiction fun w => ?_
    rw [if_neg w] at q
    have : z ≠ 0 := fun z0 => w (by unfold hiT; rw [if_pos z0]; decide)
    exact sg_ne0 this q
  · intro q; rw [if_pos q]
theorem value_read (h : InvK n zs made kept sizes funs qsize qrows) (p q : Int32) : ∃ o : Int32 ⊕ Int32, (∀ e, o = .inl e → e = 1 ∨ e = 2 ∨ e = 3) ∧
    (∀ post postx, RG o eI post postx → wp_G_value made kept sizes p q post postx) ∧ (∀ code post, RQ o post → wp_M_value code funs qsize qrows p q post) := by
  have hn := h.1
  have hm := h.2.1
  have hfn := h.2.2.1
  by_cases hp : isH p n
  · obtain ⟨f, hf, rfl⟩ := hp
    obtain ⟨a1, a2, a3, a4, a5⟩ := h.2.2.2 f hf
    obtain ⟨e1, e2⟩ := hiT_eq h hf
    by_cases hh : hiT kept f (zs f) ≤ 0
    · by_cases hq : q = 0 ∨ q = 1
      · by_cases hi : zs f ≠ 0 ∧ hiT kept f (zs f) = 0
        · have hr := Inv_r0 h hf hi.1
          have ht : rank kept (70 * f) (fun _ => 0) 0 = 0 := by have := hi.2; unfold hiT at this; rw [if_neg hi.1] at this; exact this
          refine ⟨.inr (if q = 0 then kept (70 * f + 5) else kept (70 * f + 6)), fun e q => (by cases q), fun post postx hk => ?_, fun code post hk => ?_⟩
          · have hk' : post (if q = 0 then kept (70 * f + 5) else kept (70 * f + 6)) := hk
            unfold wp_G_value
            refine G_reqF_ok hn hm (fun _ => G_end_ok (by omega) a2 a1 ?_) (fun w => absurd ⟨f, hf, rfl⟩ w)
            rw [end_0]
            refine ⟨fun _ => G_part_ok (fun _ => G_rowOf_ok (i := 0) ⟨vp_in_nI (by omega) (by omega), ?_⟩) (fun w1 w2 => absurd hq (fun w => w.elim w1 w2)), fun w => absurd hh w⟩
            rw [Nat.mul_zero, Nat.add_zero, nI_clamp (by omega), a2, nI_le0 a1]
            refine ⟨fun w => absurd w hi.1, fun _ => G_trend_ok (by omega) ⟨fun w => absurd ht w, fun _ => ?_⟩⟩
            rw [show nI (70 * f) + 5 = nI (70 * f + 5) from nI_add _ 5, show nI (70 * f) + 6 = nI (70 * f + 6) from nI_add _ 6, nI_clamp (by omega), nI_clamp (by omega)]
            exact ⟨fun w => ⟨vp_in_nI (by omega) (by omega), by rw [if_neg w] at hk'; exact hk'⟩, fun w => ⟨vp_in_nI (by omega) (by omega), by rw [if_pos w] at hk'; exact hk'⟩⟩
          · have hk' : post (if q = 0 then kept (70 * f + 5) else kept (70 * f + 6)) 0 := hk
            unfold wp_M_value wj_M_value_40
            refine M_isF_ok hn hfn (fun _ => ⟨fun _ => M_high_ok (by omega) a3 a1 ?_, fun w => absurd w (by decide)⟩) (fun w => absurd ⟨f, hf, rfl⟩ w)
            rw [e1]
            refine ⟨fun _ => M_in01 (fun _ => ⟨fun _ => ⟨vp_in_nI (by omega) (by omega), ?_⟩, fun w => absurd w (by decide)⟩) (fun w1 w2 => absurd hq (fun w => w.elim w1 w2)), fun w => absurd hh w⟩
            rw [nI_clamp (by omega), a3, nI_le0 a1]
            refine ⟨fun w => absurd w hi.1, fun _ => M_high_ok (by omega) a3 a1 ?_⟩
            rw [e1]
            refine ⟨fun w => absurd hi.2 w, fun _ => ?_⟩
            rcases hq with w | w
            · subst w
              refine M_at_ok (i := 0) (j := 5) (by omega) ?_
              rw [Nat.mul_zero, Nat.add_zero, hr.2 5 (by omega)]
              rw [if_pos rfl] at hk'; exact hk'
            · subst w
              refine M_at_ok (i := 0) (j := 6) (by omega) ?_
              rw [Nat.mul_zero, Nat.add_zero, hr.2 6 (by omega)]
              rw [if_neg (by decide)] at hk'; exact hk'
        · refine ⟨.inr q, fun e q => (by cases q), fun post postx hk => ?_, fun code post hk => ?_⟩
          · have hk' : post q := hk
            have k01 : (¬ q = 0 → post 1) ∧ (q = 0 → post 0) := ⟨fun w => by rcases hq with z | z; exact absurd z w; rw [z] at hk'; exact hk', fun w => by rw [w] at hk'; exact hk'⟩
            unfold wp_G_value
            refine G_reqF_ok hn hm (fun _ => G_end_ok (by omega) a2 a1 ?_) (fun w => absurd ⟨f, hf, rfl⟩ w)
            rw [end_0]
            refine ⟨fun _ => G_part_ok (fun _ => G_rowOf_ok (i := 0) ⟨vp_in_nI (by omega) (by omega), ?_⟩) (fun w1 w2 => absurd hq (fun w => w.elim w1 w2)), fun w => absurd hh w⟩
            rw [Nat.mul_zero, Nat.add_zero, nI_clamp (by omega), a2, nI_le0 a1]
            refine ⟨fun _ => k01, fun w => G_trend_ok (by omega) ⟨fun _ => k01, fun w2 => absurd ⟨w, ?_⟩ hi⟩⟩
            unfold hiT; rw [if_neg w]; exact w2
          · have hk' : post q 0 := hk
            unfold wp_M_value wj_M_value_40
            refine M_isF_ok hn hfn (fun _ => ⟨fun _ => M_high_ok (by omega) a3 a1 ?_, fun w => absurd w (by decide)⟩) (fun w => absurd ⟨f, hf, rfl⟩ w)
            rw [e1]
            refine ⟨fun _ => M_in01 (fun _ => ⟨fun _ => ⟨vp_in_nI (by omega) (by omega), ?_⟩, fun w => absurd w (by decide)⟩) (fun w1 w2 => absurd hq (fun w => w.elim w1 w2)), fun w => absurd hh w⟩
            rw [nI_clamp (by omega), a3, nI_le0 a1]
            refine ⟨fun _ => hk', fun w0 => M_high_ok (by omega) a3 a1 ?_⟩
            rw [e1]
            exact ⟨fun _ => hk', fun w => absurd ⟨w0, w⟩ hi⟩
      · refine ⟨.inl 3, fun e q => (by cases q; exact Or.inr (Or.inr rfl)), fun post postx hk => ?_, fun code post hk => ?_⟩
        · unfold wp_G_value
          refine G_reqF_ok hn hm (fun _ => G_end_ok (by omega) a2 a1 ?_) (fun w => absurd ⟨f, hf, rfl⟩ w)
          rw [end_0]
          exact ⟨fun _ => G_part_ok (fun w => absurd w hq) (fun _ _ => hk), fun w => absurd hh w⟩
        · unfold wp_M_value
          refine M_isF_ok hn hfn (fun _ => ⟨fun _ => M_high_ok (by omega) a3 a1 ?_, fun w => absurd w (by decide)⟩) (fun w => absurd ⟨f, hf, rfl⟩ w)
          rw [e1]
          exact ⟨fun _ => M_in01 (fun w => absurd w hq) (fun _ _ => ⟨fun w => absurd rfl w, fun _ => hk _⟩), fun w => absurd hh w⟩
    · refine ⟨.inl 2, fun e q => (by cases q; exact Or.inr (Or.inl rfl)), fun post postx hk => ?_, fun code post hk => ?_⟩
      · unfold wp_G_value
        refine G_reqF_ok hn hm (fun _ => G_end_ok (by omega) a2 a1 ?_) (fun w => absurd ⟨f, hf, rfl⟩ w)
        rw [end_0]
        exact ⟨fun w => absurd w hh, fun _ => hk⟩
      · unfold wp_M_value
        refine M_isF_ok hn hfn (fun _ => ⟨fun _ => M_high_ok (by omega) a3 a1 ?_, fun w => absurd w (by decide)⟩) (fun w => absurd ⟨f, hf, rfl⟩ w)
        rw [e1]
        exact ⟨fun w => absurd w hh, fun _ => hk _⟩
  · refine ⟨.inl 1, fun e q => (by cases q; exact Or.inl rfl), fun post postx hk => ?_, fun code post hk => ?_⟩
    · unfold wp_G_value
      exact G_reqF_ok hn hm (fun w => absurd w hp) (fun _ => hk)
    · unfold wp_M_value
      exact M_isF_ok hn hfn (fun w => absurd w hp) (fun _ => ⟨fun w => absurd rfl w, fun _ => hk _⟩)
end Rd2
