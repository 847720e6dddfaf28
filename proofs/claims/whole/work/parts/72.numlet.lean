/-! number and letter, on both sides. -/
def oneT : Nat → Int32 := fun j => if j < 5 then 0 else 1
theorem oneT_wf : wfr oneT 0 := wfr_of (fun j hj => by unfold oneT wfe; rw [if_pos hj]; decide) (by decide) (by decide) (by decide) (by decide)
theorem W_takeOne_ok {taken : Nat → Int32} {post : (Nat → Int32) → Prop} (k : ∀ t, eqp 7 t oneT → post t) : wp_W_takeOne taken post := by
  unfold wp_W_takeOne
  refine lpW2_ex _ (fun v x => ∃ e : Nat, v = nI e ∧ e ≤ 5 ∧ ∀ j, j < e → x j = 0) (fun v _ => 5 - v.toNatClampNeg) ?_ _ _ ⟨0, nI_0.symm, by omega, fun j hj => absurd hj (Nat.not_lt_zero j)⟩
  rintro ih v x ⟨e, rfl, he, g⟩ hs
  unfold wb_W_takeOne_2
  have c6 : (6 : Int32).toNatClampNeg = 6 := by decide
  have c5' : (5 : Int32).toNatClampNeg = 5 := by decide
  rw [five_le he, c5', c6, nI_clamp (by omega)]
  refine ⟨fun c => ⟨in5_7, fun t1 e1 => ⟨in6_7, fun t2 e2 => k t2 fun j hj => ?_⟩⟩, fun c => ⟨vp_in_nI (by omega) (by omega), fun t9 e9 x10 e10 => ?_⟩⟩
  · rw [e2, e1]
    unfold oneT
    rcases (show j < 5 ∨ j = 5 ∨ j = 6 by omega) with q | q | q
    · rw [if_pos q, pk_un (by omega), pk_un (by omega)]; exact g j (by omega)
    · rw [q, pk_un (by omega), pk_us]; rfl
    · rw [q, pk_us]; rfl
  · rw [nI_1] at e10
    refine hs _ _ ⟨e + 1, e10, by omega, fun j hj => ?_⟩ ?_
    · rw [e9]
      by_cases q : j = e
      · rw [q, pk_us]
      · rw [pk_un q]; exact g j (by omega)
    · show 5 - x10.toNatClampNeg < 5 - (nI e).toNatClampNeg
      rw [e10, nI_clamp (by omega), nI_clamp (by omega)]; omega
theorem TC_one {tg : Int32} {t : Nat → Int32} (h : eqp 7 t oneT) : TC (some oneT) tg tg t := ⟨wfr_congr (fun j hj => by rw [Nat.zero_add]; exact (h j hj).symm) oneT_wf, Or.inr ⟨oneT, rfl, rfl, h⟩⟩
theorem red_one (a : Int) : redU a 1 = a ∧ redD a 1 = 1 := by
  unfold redU redD sgD
  rw [if_neg (by omega), Int.gcd_one]
  exact ⟨Int.tdiv_one _, rfl⟩
/-- a whole multiple of a letter to a power -/
def mT (c : Nat) (y : Int) (a : Int) : Nat → Int32 := fun j => if j = c then Int32.ofInt y else if j < 5 then 0 else if j = 5 then Int32.ofInt a else 1
theorem oMul_eq {c : Nat} {y a : Int} (hc : c < 5) (hy : -99 ≤ y ∧ y ≤ 99) (ha : a.natAbs ≤ 1000000) (h0 : a ≠ 0) : ∃ t', rais c y (mulN a 1 (some oneT)) = some t' ∧ eqp 7 t' (mT c y a) ∧ wfr t' 0 := by
  have e5 : (oneT 5).toInt = 1 := by decide
  have e6 : (oneT 6).toInt = 1 := by decide
  obtain ⟨r1, r2⟩ := red_one a
  have hm : mulN a 1 (some oneT) = some (upd (upd oneT 5 (Int32.ofInt a)) 6 (Int32.ofInt 1)) := by
    show (if _ then none else some _) = _
    rw [e5, e6, Int.one_mul, Int.one_mul, r1, r2, if_neg (by omega)]
  have ec : upd (upd oneT 5 (Int32.ofInt a)) 6 (Int32.ofInt 1) c = 0 := by
    rw [pk_un (by omega), pk_un (by omega)]; unfold oneT; rw [if_pos hc]
  refine ⟨upd (upd (upd oneT 5 (Int32.ofInt a)) 6 (Int32.ofInt 1)) c (Int32.ofInt y), ?_, ?_, ?_⟩
  · rw [hm]
    show (if _ then some _ else none) = _
    rw [ec, i_0, Int.zero_add, if_pos hy]
  · intro j hj
    unfold mT
    by_cases q : j = c
    · rw [if_pos q, q, pk_us]
    · rw [if_neg q, pk_un q]
      rcases (show j < 5 ∨ j = 5 ∨ j = 6 by omega) with w | w | w
      · rw [if_pos w, pk_un (by omega), pk_un (by omega)]; unfold oneT; rw [if_pos w]
      · rw [w, if_neg (by omega), if_pos rfl, pk_un (by omega), pk_us]
      · rw [w, if_neg (by omega), if_neg (by omega), pk_us]; decide
  · refine wfr_of (fun j hj => ?_) ?_ ?_ ?_ ?_
    · by_cases q : j = c
      · rw [q, pk_us]; unfold wfe; rw [i_ofInt (by omega) (by omega)]; exact hy
      · rw [pk_un q, pk_un (by omega), pk_un (by omega)]; exact (wfr0 oneT_wf).1 j hj
    · rw [pk_un (by omega), pk_un (by omega), pk_us, i_ofInt (by omega) (by omega)]; exact h0
    · rw [pk_un (by omega), pk_un (by omega), pk_us, i_ofInt (by omega) (by omega)]; exact ha
    · rw [pk_un (by omega), pk_us]; decide
    · rw [pk_un (by omega), pk_us]; decide
theorem l_1 : (1 : Int64).toInt = 1 := by decide
theorem G_putMul_ok {s : Sst} {c cell : Nat} {size tooG p0 p2 : Int32} {rows taken : Nat → Int32} {post : Int32 → Int32 → (Nat → Int32) → (Nat → Int32) → Prop} (hR : RC s c size tooG rows) (hc : c < 100) (hcell : cell < 5) (hp : p2.toInt.natAbs ≤ 99) (hf : p0.toInt.natAbs ≤ 1000000)
    (k0 : p0 = 0 → RC s c size tooG rows → ∀ taken', post size tooG rows taken') (k1 : p0 ≠ 0 → ∀ size' tooG' rows' taken', RC (putS s (rais cell p2.toInt (mulN p0.toInt 1 (some oneT)))) (c + 1) size' tooG' rows' → post size' tooG' rows' taken') : wp_G_putMultiple size tooG rows taken p0 (nI cell) p2 post := by
  unfold wp_G_putMultiple
  refine ⟨fun q => k0 q hR _, fun q => W_takeOne_ok fun t ht => W_multiply_ok (TC_one ht) (by rw [l_of_i]; omega) (by rw [l_1]; decide) (by rw [l_1]; decide) (by rw [l_of_i]; intro w; exact q (Int32.toInt_inj.mp (w.trans i_0.symm))) fun tg1 tk1 hT => W_raise_ok hT hcell (by omega) fun tg2 tk2 hT2 => RC_put hR hc hT2.1 hT2.2 fun a b d hR' => k1 q _ _ _ _ ?_⟩
  rw [l_of_i, l_1] at hR'
  exact hR'
section Nl
variable {n : Nat} {zs : Nat → Nat} {made funs : Int32} {kept sizes qsize qrows : Nat → Int32}
theorem letter_pair (h : InvK n zs made kept sizes funs qsize qrows) (p : Int32) : ∃ o : Oc, (∀ s, o = .inr (some s) → n < 80) ∧ (∀ e, o = .inl e → e = 1 ∨ e = 2) ∧
    (∀ size tooG rows taken post postx, GOK o n made kept sizes "java/lang/IllegalArgumentException" (fun r m k z => ∀ a b c d, post r m a b k z c d) (fun E => ∀ a b c d, postx E made a b kept sizes c d) → wp_G_letter made size tooG kept sizes rows taken p post postx) ∧
    (∀ code qmade great up down work xx post, (∀ b code' funs' qmade' great' up' down' size' rows' work' xx', MR o n funs qsize qrows b code' funs' size' rows' → post b code' funs' qmade' great' up' down' size' rows' work' xx') → wp_M_letter code funs qmade great up down qsize qrows work xx p post) := by
  have hn := h.1
  have hm := h.2.1
  have hfn := h.2.2.1
  have c4 : p ≤ 4 ↔ p.toInt ≤ 4 := by rw [Int32.le_iff_toInt_le]; rfl
  have c0 : p < 0 ↔ p.toInt < 0 := by rw [Int32.lt_iff_toInt_lt, i_0]
  have n4 : (0 : Int64).toInt = 0 ∧ (4 : Int64).toInt = 4 := by decide
  by_cases hp : isH p 5
  · rcases Nat.lt_or_ge n 80 with h80 | h80
    · obtain ⟨c, hc, rfl⟩ := hp
      have pc : (nI c).toInt = c := nI_toInt (by omega)
      obtain ⟨t', q1, q2, q3⟩ := oMul_eq (a := 1) (y := 1) hc (by omega) (by decide) (by omega)
      refine ⟨.inr (some (putS s0 (some t'))), fun _ _ => h80, fun e q => (by cases q), ?_, ?_⟩
      · intro size tooG rows taken post postx hk
        unfold wp_G_letter
        rw [c0, c4, pc]
        refine ⟨fun w => absurd w (by omega), fun _ => ⟨fun _ => G_reqR_ok hn hm (fun _ => ?_) (fun w => absurd w (by omega)), fun w => absurd w (by omega)⟩⟩
        unfold wp_W_begin
        refine G_putMul_ok (RC_0 rows) (by omega) hc (by decide) (by decide) (fun w => absurd w (by decide)) fun _ a b d e hR => ?_
        rw [show (1 : Int32).toInt = 1 by decide, q1] at hR
        exact G_keep_ok hR (by omega) h80 hm (fun w => hk.1 w _ _ _ _) (fun z f' kept' w1 w2 w3 w4 => hk.2 z f' kept' w1 w2 w3 w4 _ _ _ _)
      · intro code qmade great up down work xx post hk
        unfold wp_M_letter
        refine M_in_ok (fun _ _ => ⟨fun _ => ⟨fun _ => ?_, fun w => ?_⟩, fun w => absurd w (by decide)⟩) (fun w => absurd ⟨by rw [n4.1, l_of_i, pc]; omega, by rw [n4.2, l_of_i, pc]; omega⟩ w)
        · unfold wj_M_letter_31 wp_M_start
          refine lpW2_ex _ (fun v x => ∃ e : Nat, v = nI e ∧ e ≤ 5 ∧ ∀ j, j < e → x j = mT c 1 1 j) (fun v _ => 5 - v.toNatClampNeg) ?_ _ _ ⟨0, nI_0.symm, by omega, fun j hj => absurd hj (Nat.not_lt_zero j)⟩
          rintro ih v x ⟨e, rfl, he, g⟩ hs
          unfold wb_M_letter_49
          have c6 : (6 : Int32).toNatClampNeg = 6 := by decide
          have c5' : (5 : Int32).toNatClampNeg = 5 := by decide
          rw [five_le he, c5', c6, nI_eq (by omega) (by omega)]
          refine ⟨fun w => ⟨in5_7, fun x1 e1 => ⟨in6_7, fun x2 e2 => RM_put (RM_0 work) (by omega) (Or.inr ⟨t', rfl, rfl, q3, fun j hj => ?_⟩) fun m' g' u' d' w' hR' => M_keep_ok hR' (by omega) h80 hfn (fun w3 => hk _ _ _ _ _ _ _ _ _ _ _ (Or.inl ⟨w3, rfl, rfl, rfl, rfl⟩)) (fun z f' rows' w3 w4 w5 w6 => hk _ _ _ _ _ _ _ _ _ _ _ (Or.inr ⟨z, f', w3, w4, w5, rfl, rfl, rfl, w6, rfl⟩))⟩⟩, fun w => ⟨fun w2 => ?_, fun w2 => ?_⟩⟩
          · rw [q2 j hj, e2, e1]
            rcases (show j < 5 ∨ j = 5 ∨ j = 6 by omega) with z | z | z
            · rw [pk_un (by omega), pk_un (by omega)]; exact g j (by omega)
            · rw [z, pk_un (by omega), pk_us]; unfold mT; rw [if_neg (by omega), if_neg (by omega), if_pos rfl]; decide
            · rw [z, pk_us]; unfold mT; rw [if_neg (by omega), if_neg (by omega), if_neg (by omega)]
          · unfold wj_M_letter_69
            rw [nI_clamp (by omega)]
            refine ⟨vp_in_nI (by omega) (by omega), fun x3 e3 y ey => ?_⟩
            rw [nI_1] at ey
            refine hs _ _ ⟨e + 1, ey, by omega, fun j hj => ?_⟩ ?_
            · rw [e3]
              by_cases z : j = e
              · rw [z, pk_us]; unfold mT; rw [if_neg w2, if_pos (by omega)]
              · rw [pk_un z]; exact g j (by omega)
            · show 5 - y.toNatClampNeg < 5 - (nI e).toNatClampNeg
              rw [ey, nI_clamp (by omega), nI_clamp (by omega)]; omega
          · unfold wj_M_letter_69_2
            rw [nI_clamp (by omega)]
            refine ⟨vp_in_nI (by omega) (by omega), fun x3 e3 y ey => ?_⟩
            rw [nI_1] at ey
            refine hs _ _ ⟨e + 1, ey, by omega, fun j hj => ?_⟩ ?_
            · rw [e3]
              by_cases z : j = e
              · rw [z, pk_us]; unfold mT; rw [if_pos w2]; decide
              · rw [pk_un z]; exact g j (by omega)
            · show 5 - y.toNatClampNeg < 5 - (nI e).toNatClampNeg
              rw [ey, nI_clamp (by omega), nI_clamp (by omega)]; omega
        · subst hfn; rw [f80 hn] at w; omega
    · refine ⟨.inl 2, fun s q => (by cases q), fun e q => (by cases q; exact Or.inr rfl), ?_, ?_⟩
      · intro size tooG rows taken post postx hk
        rw [isH_iff (by omega)] at hp
        unfold wp_G_letter
        rw [c0, c4]
        exact ⟨fun w => absurd w (by omega), fun _ => ⟨fun _ => G_reqR_ok hn hm (fun w => absurd w (by omega)) (fun _ => hk _ _ _ _), fun w => absurd w (by omega)⟩⟩
      · intro code qmade great up down work xx post hk
        rw [isH_iff (by omega)] at hp
        unfold wp_M_letter
        refine M_in_ok (fun _ _ => ⟨fun _ => ⟨fun w => ?_, fun w => hk _ _ _ _ _ _ _ _ _ _ _ ⟨rfl, rfl, rfl, rfl⟩⟩, fun w => absurd w (by decide)⟩) (fun w => absurd ⟨by rw [n4.1, l_of_i]; omega, by rw [n4.2, l_of_i]; omega⟩ w)
        subst hfn; rw [f80 hn] at w; omega
  · refine ⟨.inl 1, fun s q => (by cases q), fun e q => (by cases q; exact Or.inl rfl), ?_, ?_⟩
    · intro size tooG rows taken post postx hk
      rw [isH_iff (by omega)] at hp
      unfold wp_G_letter wj_G_letter_9
      rw [c0, c4]
      exact ⟨fun _ => hk _ _ _ _, fun w => ⟨fun w2 => absurd ⟨by omega, by omega⟩ hp, fun _ => hk _ _ _ _⟩⟩
    · intro code qmade great up down work xx post hk
      rw [isH_iff (by omega)] at hp
      unfold wp_M_letter
      refine M_in_ok (fun a b => ?_) (fun _ => ⟨fun w => absurd rfl w, fun _ => hk _ _ _ _ _ _ _ _ _ _ _ ⟨rfl, rfl, rfl, rfl⟩⟩)
      rw [n4.1, l_of_i] at a
      rw [n4.2, l_of_i] at b
      exact absurd ⟨a, by omega⟩ hp
end Nl
