/-! READS: calls that change nothing. -/
def RG {α : Type} (o : Int32 ⊕ α) (E : Int32 → String) (post : α → Prop) (postx : String → Prop) : Prop := match o with
  | .inl e => postx (E e)
  | .inr a => post a
def RQ {α : Type} (o : Int32 ⊕ α) (post : α → Int32 → Prop) : Prop := match o with
  | .inl e => ∀ b, post b e
  | .inr a => post a 0
def eI : Int32 → String := fun e => if e = 1 then "java/lang/IndexOutOfBoundsException" else if e = 2 then "java/lang/IllegalStateException" else "java/lang/IllegalArgumentException"
def eT : Int32 → String := fun e => if e = 1 then "java/lang/IndexOutOfBoundsException" else "java/lang/IllegalArgumentException"
def eF : Int32 → String := fun _ => "java/lang/IllegalArgumentException"
section Rd
variable {n : Nat} {zs : Nat → Nat} {made funs : Int32} {kept sizes qsize qrows : Nat → Int32}
theorem Inv_r0 (h : InvK n zs made kept sizes funs qsize qrows) {f : Nat} (hf : f < n) (hz : zs f ≠ 0) : wfr kept (70 * f) ∧ ∀ j, j < 7 → qrows (70 * f + j) = kept (70 * f + j) := by
  obtain ⟨y1, y2, y3⟩ := Inv_row h hf (show 0 < zs f by omega)
  exact ⟨wfr_congr (fun j hj => by show kept (70 * f + 7 * 0 + (0 + j)) = _; congr 1; omega) y1, fun j hj => y3 j hj⟩
theorem terms_read (h : InvK n zs made kept sizes funs qsize qrows) (p : Int32) : ∃ o : Int32 ⊕ Int32, (∀ e, o = .inl e → e = 1) ∧
    (∀ post postx, RG o eI post postx → wp_G_terms made sizes p post postx) ∧ (∀ code post, RQ o post → wp_M_terms code funs qsize p post) := by
  have hn := h.1
  have hm := h.2.1
  have hfn := h.2.2.1
  by_cases hp : isH p n
  · obtain ⟨f, hf, rfl⟩ := hp
    obtain ⟨a1, a2, a3, a4, a5⟩ := h.2.2.2 f hf
    refine ⟨.inr (nI (zs f)), fun e q => (by cases q), fun post postx hk => ?_, fun code post hk => ?_⟩
    · unfold wp_G_terms
      refine G_reqF_ok hn hm (fun _ => ⟨vp_in_nI (by omega) (by omega), ?_⟩) (fun w => absurd ⟨f, hf, rfl⟩ w)
      rw [nI_clamp (by omega), a2]; exact hk
    · unfold wp_M_terms
      refine M_isF_ok hn hfn (fun _ => ⟨fun w => absurd w (by decide), fun _ => ⟨vp_in_nI (by omega) (by omega), ?_⟩⟩) (fun w => absurd ⟨f, hf, rfl⟩ w)
      rw [nI_clamp (by omega), a3]; exact hk
  · refine ⟨.inl 1, fun e q => (by cases q; rfl), fun post postx hk => ?_, fun code post hk => ?_⟩
    · unfold wp_G_terms
      exact G_reqF_ok hn hm (fun w => absurd w hp) (fun _ => hk)
    · unfold wp_M_terms
      exact M_isF_ok hn hfn (fun w => absurd w hp) (fun _ => ⟨fun _ => hk _, fun w => absurd rfl w⟩)
theorem term_read (h : InvK n zs made kept sizes funs qsize qrows) (p k0 w0 : Int32) : ∃ o : Int32 ⊕ Int32, (∀ e, o = .inl e → e = 1 ∨ e = 2) ∧
    (∀ post postx, RG o eT post postx → wp_G_term made kept sizes p k0 w0 post postx) ∧ (∀ code post, RQ o post → wp_M_term code funs qsize qrows p k0 w0 post) := by
  have hn := h.1
  have hm := h.2.1
  have hfn := h.2.2.1
  by_cases hp : isH p n
  · obtain ⟨f, hf, rfl⟩ := hp
    obtain ⟨a1, a2, a3, a4, a5⟩ := h.2.2.2 f hf
    have zT : (nI (zs f)).toInt = zs f := nI_toInt (by omega)
    have k00 : k0 < 0 ↔ k0.toInt < 0 := by rw [Int32.lt_iff_toInt_lt, i_0]
    have kz : k0 < nI (zs f) ↔ k0.toInt < zs f := by rw [Int32.lt_iff_toInt_lt, zT]
    have w00 : w0 < 0 ↔ w0.toInt < 0 := by rw [Int32.lt_iff_toInt_lt, i_0]
    have w7 : w0 < 7 ↔ w0.toInt < 7 := by rw [Int32.lt_iff_toInt_lt]; rfl
    have l6 : (6 : Int64).toInt = 6 := by decide
    have zm : (nI (zs f) - 1).toInt64.toInt = (zs f : Int) - 1 := by
      have o1 : (1 : Int32).toInt = 1 := by decide
      rw [l_of_i, i_sub (by rw [zT, o1]; omega) (by rw [zT, o1]; omega), zT, o1]
    by_cases c : (0 ≤ k0.toInt ∧ k0.toInt < zs f) ∧ (0 ≤ w0.toInt ∧ w0.toInt < 7)
    · obtain ⟨⟨c1, c2⟩, c3, c4⟩ := c
      obtain ⟨k, rfl, hk⟩ : ∃ k, k0 = nI k ∧ k < zs f := ⟨k0.toInt.toNat, Int32.toInt_inj.mp (by rw [nI_toInt (by omega)]; omega), by omega⟩
      obtain ⟨w, rfl, hw⟩ : ∃ w, w0 = nI w ∧ w < 7 := ⟨w0.toInt.toNat, Int32.toInt_inj.mp (by rw [nI_toInt (by omega)]; omega), by omega⟩
      obtain ⟨y1, y2, y3⟩ := Inv_row h hf hk
      refine ⟨.inr (kept (70 * f + 7 * k + w)), fun e q => (by cases q), fun post postx hk => ?_, fun code post hk => ?_⟩
      · unfold wp_G_term
        refine G_reqF_ok hn hm (fun _ => ?_) (fun w => absurd ⟨f, hf, rfl⟩ w)
        rw [nI_clamp (by omega), a2, k00, kz, w00, w7]
        refine ⟨fun q => absurd q (by omega), fun _ => ⟨vp_in_nI (by omega) (by omega), fun _ => ⟨fun q => absurd q (by omega), fun _ => ⟨fun _ => G_rowOf_ok ?_, fun q => absurd c4 q⟩⟩, fun q => absurd c2 q⟩⟩
        rw [nI_add, nI_clamp (by omega)]
        exact ⟨vp_in_nI (by omega) (by omega), hk⟩
      · unfold wp_M_term
        refine M_isF_ok hn hfn (fun _ => ⟨fun _ => ⟨vp_in_nI (by omega) (by omega), ?_⟩, fun w => absurd w (by decide)⟩) (fun w => absurd ⟨f, hf, rfl⟩ w)
        rw [nI_clamp (by omega), a3]
        refine M_in_ok (fun _ _ => ⟨fun q => absurd q (by decide), fun _ => M_in_ok (fun _ _ => ⟨fun _ => M_at_ok (by omega) ?_, fun q => absurd q (by decide)⟩) (fun q => absurd ⟨by rw [l_0, l_of_i]; exact c3, by rw [l6, l_of_i]; omega⟩ q)⟩) (fun q => absurd ⟨by rw [l_0, l_of_i]; exact c1, by rw [zm, l_of_i]; omega⟩ q)
        have := y3 w hw
        dsimp only at this
        rw [this]; exact hk
    · refine ⟨.inl 2, fun e q => (by cases q; exact Or.inr rfl), fun post postx hk => ?_, fun code post hk => ?_⟩
      · unfold wp_G_term
        refine G_reqF_ok hn hm (fun _ => ?_) (fun w => absurd ⟨f, hf, rfl⟩ w)
        rw [nI_clamp (by omega), a2, k00, kz, w00, w7]
        exact ⟨fun _ => hk, fun q1 => ⟨vp_in_nI (by omega) (by omega), fun q2 => ⟨fun _ => hk, fun q3 => ⟨fun q4 => absurd ⟨⟨by omega, q2⟩, by omega, q4⟩ c, fun _ => hk⟩⟩, fun _ => hk⟩⟩
      · unfold wp_M_term
        refine M_isF_ok hn hfn (fun _ => ⟨fun _ => ⟨vp_in_nI (by omega) (by omega), ?_⟩, fun w => absurd w (by decide)⟩) (fun w => absurd ⟨f, hf, rfl⟩ w)
        rw [nI_clamp (by omega), a3]
        refine M_in_ok (fun q1 q2 => ⟨fun q => absurd q (by decide), fun _ => M_in_ok (fun q3 q4 => ?_) (fun _ => ⟨fun q => absurd rfl q, fun _ => hk _⟩)⟩) (fun _ => ⟨fun _ => hk _, fun q => absurd rfl q⟩)
        rw [l_0, l_of_i] at q1 q3
        rw [zm, l_of_i] at q2
        rw [l6, l_of_i] at q4
        exact absurd ⟨⟨q1, by omega⟩, q3, by omega⟩ c
  · refine ⟨.inl 1, fun e q => (by cases q; exact Or.inl rfl), fun post postx hk => ?_, fun code post hk => ?_⟩
    · unfold wp_G_term
      exact G_reqF_ok hn hm (fun w => absurd w hp) (fun _ => hk)
    · unfold wp_M_term
      exact M_isF_ok hn hfn (fun w => absurd w hp) (fun _ => ⟨fun w => absurd rfl w, fun _ => hk _⟩)
/-- the trend of the highest term; its sign -/
def hiT (kept : Nat → Int32) (f z : Nat) : Int32 := if z = 0 then 0 else rank kept (70 * f) (fun _ => 0) 0
def sgT (kept : Nat → Int32) (f z : Nat) : Int32 := if z = 0 then 0 else if kept (70 * f + 5) ≤ 0 then -1 else 1
theorem G_trend_ok {b : Nat} {post : Int32 → Prop} (hb : b + 7 ≤ 5600) (k : post (rank kept b (fun _ => 0) 0)) : wp_G_trendOf kept (nI b) post := by
  unfold wp_G_trendOf
  refine lpW1_ex _ (fun i => ∃ e : Nat, i = nI e ∧ e ≤ 5 ∧ c5 (fun e => kept (b + e)) (fun _ => 0) (5 - e) e = rank kept b (fun _ => 0) 0) (fun i => 5 - i.toNatClampNeg) ?_ _ ⟨0, nI_0.symm, by omega, rfl⟩
  rintro ih i ⟨e, rfl, he, hc⟩ hs
  unfold wb_G_trendOf_2
  rw [five_le he]
  constructor
  · intro c
    have : e = 5 := by omega
    subst this
    rw [show c5 (fun e => kept (b + e)) (fun _ => 0) (5 - 5) 5 = 0 from rfl] at hc
    rw [← hc] at k; exact k
  · intro c
    obtain ⟨m, hm⟩ : ∃ m, 5 - e = m + 1 := ⟨5 - e - 1, by omega⟩
    have hm2 : m = 5 - (e + 1) := by omega
    rw [hm] at hc
    unfold c5 at hc
    rw [nI_add, nI_clamp (by omega)]
    refine ⟨vp_in_nI (by omega) (by omega), ?_, ?_⟩
    · intro q x ex
      rw [if_pos q] at hc
      rw [nI_1] at ex
      refine hs _ ⟨e + 1, ex, by omega, by rw [← hm2]; exact hc⟩ ?_
      show 5 - x.toNatClampNeg < 5 - (nI e).toNatClampNeg
      rw [ex, nI_clamp (by omega), nI_clamp (by omega)]; omega
    · intro q
      rw [if_neg q] at hc
      refine ⟨vp_in_nI (by omega) (by omega), ?_, ?_⟩
      · intro z; rw [if_pos z] at hc; rw [hc]; exact k
      · intro z; rw [if_neg z] at hc; rw [hc]; exact k
theorem nI_le0 {z : Nat} (h : z ≤ 10) : nI z ≤ 0 ↔ z = 0 := by
  have : (0 : Int32) = nI 0 := rfl
  rw [this, nI_leI (by omega) (by omega)]; omega
theorem nI_is0 {z : Nat} (h : z ≤ 10) : nI z = 0 ↔ z = 0 := by
  have : (0 : Int32) = nI 0 := rfl
  rw [this]; exact nI_eq (by omega) (by omega)
theorem M_high_ok {f z : Nat} {post : Int32 → Prop} (hf : f < 80) (hs : qsize f = nI z) (hz : z ≤ 10) (k : post (hiT qrows f z)) : wp_M_high qsize qrows (nI f) post := by
  unfold wp_M_high
  unfold hiT at k
  refine lpW1_ex _ (fun i => ∃ e : Nat, i = nI e ∧ e ≤ 5 ∧ c5 (fun e => qrows (70 * f + e)) (fun _ => 0) (5 - e) e = rank qrows (70 * f) (fun _ => 0) 0 ∧ (e = 0 ∨ z ≠ 0)) (fun i => 5 - i.toNatClampNeg) ?_ _ ⟨0, nI_0.symm, by omega, rfl, Or.inl rfl⟩
  rintro ih i ⟨e, rfl, he, hc, hz0⟩ hs2
  unfold wb_M_high_2
  rw [five_le he, nI_clamp (by omega), hs, nI_le0 hz]
  constructor
  · intro c
    have : e = 5 := by omega
    subst this
    rw [if_neg (by omega)] at k
    rw [show c5 (fun e => qrows (70 * f + e)) (fun _ => 0) (5 - 5) 5 = 0 from rfl] at hc
    rw [← hc] at k; exact k
  · intro c
    refine ⟨vp_in_nI (by omega) (by omega), fun q => by rw [if_pos q] at k; exact k, fun q => M_at_ok (i := 0) (by omega) ?_⟩
    rw [if_neg q] at k
    obtain ⟨m, hm⟩ : ∃ m, 5 - e = m + 1 := ⟨5 - e - 1, by omega⟩
    have hm2 : m = 5 - (e + 1) := by omega
    rw [hm] at hc
    unfold c5 at hc
    rw [Nat.mul_zero, Nat.add_zero]
    refine ⟨?_, ?_⟩
    · intro q2 x ex
      rw [if_pos q2] at hc
      rw [nI_1] at ex
      refine hs2 _ ⟨e + 1, ex, by omega, by rw [← hm2]; exact hc, Or.inr q⟩ ?_
      show 5 - x.toNatClampNeg < 5 - (nI e).toNatClampNeg
      rw [ex, nI_clamp (by omega), nI_clamp (by omega)]; omega
    · intro q2
      rw [if_neg q2] at hc
      refine M_at_ok (i := 0) (by omega) ?_
      rw [Nat.mul_zero, Nat.add_zero]
      refine ⟨?_, ?_⟩
      · intro z; rw [if_pos z] at hc; rw [hc]; exact k
      · intro z; rw [if_neg z] at hc; rw [hc]; exact k
theorem M_sgn_ok {f z : Nat} {post : Int32 → Prop} (hf : f < 80) (hs : qsize f = nI z) (hz : z ≤ 10) (k : post (sgT qrows f z)) : wp_M_signOf qsize qrows (nI f) post := by
  unfold wp_M_signOf
  unfold sgT at k
  rw [nI_clamp (by omega), hs, nI_is0 hz]
  refine ⟨vp_in_nI (by omega) (by omega), fun q => M_at_ok (i := 0) (j := 5) (by omega) ?_, fun q => by rw [if_pos q] at k; exact k⟩
  rw [if_neg q] at k
  rw [Nat.mul_zero, Nat.add_zero]
  exact ⟨fun w => by rw [if_pos w] at k; exact k, fun w => by rw [if_neg w] at k; exact k⟩
theorem hiT_eq (h : InvK n zs made kept sizes funs qsize qrows) {f : Nat} (hf : f < n) : hiT qrows f (zs f) = hiT kept f (zs f) ∧ sgT qrows f (zs f) = sgT kept f (zs f) := by
  unfold hiT sgT
  by_cases q : zs f = 0
  · rw [if_pos q, if_pos q, if_pos q, if_pos q]; exact ⟨rfl, rfl⟩
  · have hr := (Inv_r0 h hf q).2
    rw [if_neg q, if_neg q, if_neg q, if_neg q, hr 5 (by omega)]
    exact ⟨rank_congr (fun j hj => hr j (by omega)) (fun _ _ => rfl), rfl⟩
theorem G_sign_at {b : Nat} {post : Int32 → Prop} (hb : b + 7 ≤ 5600) (k : post (if kept (b + 5) ≤ 0 then -1 else 1)) : wp_G_signOf kept (nI b) post := by
  unfold wp_G_signOf
  rw [show nI b + 5 = nI (b + 5) from nI_add b 5, nI_clamp (by omega)]
  exact ⟨vp_in_nI (by omega) (by omega), fun w => by rw [if_pos w] at k; exact k, fun w => by rw [if_neg w] at k; exact k⟩
theorem G_end_ok {f z : Nat} {post : Int32 → Prop} (hf : f < 80) (hs : sizes f = nI z) (hz : z ≤ 10) (k : post (if hiT kept f z ≤ 0 then 0 else sgT kept f z)) : wp_G_endOf kept sizes (nI f) post := by
  unfold wp_G_endOf
  unfold hiT sgT at k
  refine G_rowOf_ok (i := 0) ⟨vp_in_nI (by omega) (by omega), ?_⟩
  rw [Nat.mul_zero, Nat.add_zero, nI_clamp (by omega), hs, nI_le0 hz]
  refine ⟨fun q => ?_, fun q => G_trend_ok (by omega) ?_⟩
  · rw [if_pos q, if_pos (by decide)] at k; exact k
  · rw [if_neg q, if_neg q] at k
    exact ⟨fun w => by rw [if_pos w] at k; exact k, fun w => G_sign_at (by omega) (by rw [if_neg w] at k; exact k)⟩
end Rd
