/-! number, on both sides. -/
section Nu
variable {n : Nat} {zs : Nat → Nat} {made funs : Int32} {kept sizes qsize qrows : Nat → Int32}
theorem i_ne0 {p : Int32} (h : ¬ p = 0) : p.toInt ≠ 0 := fun w => h (Int32.toInt_inj.mp (w.trans i_0.symm))
theorem mulOne {a b : Int} : mulN a b (some oneT) = if 1000000 < (redU a b).natAbs ∨ 1000000 < redD a b then none else some (upd (upd oneT 5 (Int32.ofInt (redU a b))) 6 (Int32.ofInt (redD a b))) := by
  have e5 : (oneT 5).toInt = 1 := by decide
  have e6 : (oneT 6).toInt = 1 := by decide
  show (if _ then none else some _) = _
  rw [e5, e6, Int.one_mul, Int.one_mul]
theorem M_number_loop {p0 p1 : Int32} {code mk gr : Int32} {work xx : Nat → Int32} {up down : Int64} {post : Int32 → Int32 → Int32 → Int32 → Int32 → Int64 → Int64 → (Nat → Int32) → (Nat → Int32) → (Nat → Int32) → (Nat → Int32) → Prop} (hmk : mk = 0) (hgr : gr = 0) (h1 : ¬ p1 = 0)
    (k : ∀ (s : Sst) mk' gr' work' up' down' xx', s = (if p0 = 0 then s0 else putS s0 (mulN p0.toInt p1.toInt (some oneT))) → RM s 1 mk' gr' work' → wj_M_number_99 funs code mk' gr' qsize qrows work' post up' down' xx') : ∃ n : Nat, lpW2 (wb_M_number_16 p0 funs code mk gr qsize qrows work post up down p1) n (0 : Int32) xx := by
  subst hmk; subst hgr
  refine lpW2_ex _ (fun v x => ∃ e : Nat, v = nI e ∧ e ≤ 5 ∧ ∀ j, j < e → x j = 0) (fun v _ => 5 - v.toNatClampNeg) ?_ _ _ ⟨0, nI_0.symm, by omega, fun j hj => absurd hj (Nat.not_lt_zero j)⟩
  rintro ih v x ⟨e, rfl, he, g⟩ hs
  unfold wb_M_number_16
  have c6 : (6 : Int32).toNatClampNeg = 6 := by decide
  have c5' : (5 : Int32).toNatClampNeg = 5 := by decide
  rw [five_le he, nI_clamp (by omega)]
  refine ⟨fun c => ⟨fun q => ?_, fun q => ?_⟩, fun c => ⟨vp_in_nI (by omega) (by omega), fun t9 e9 x10 e10 => ?_⟩⟩
  · refine k _ _ _ _ _ _ _ rfl ?_
    rw [if_pos q]
    rcases RM_0 work with w | ⟨z, f, a1, a2, a3, a4, a5, a6⟩
    · exact Or.inl w
    · exact Or.inr ⟨z, f, a1, by omega, a3, a4, a5, a6⟩
  · have p1n := i_ne0 h1
    have p0n := i_ne0 q
    have b0 := i_abs p0
    have b1 := i_abs p1
    have pd := redD_pos (a := p0.toInt) p1n
    have pu := redU_ne (b := p1.toInt) p0n
    have ho := mulOne (a := p0.toInt) (b := p1.toInt)
    refine M_lowest_ok (by rw [l_of_i]; omega) (by rw [l_of_i]; omega) (by rw [l_of_i]; exact p1n) fun u d hu hd => ?_
    rw [l_of_i, l_of_i] at hu hd
    have bu : u.toInt.natAbs ≤ 2 ^ 62 := by rw [hu]; exact Nat.le_trans (tdiv_le _ _) (by omega)
    refine M_bound_ok bu (fun c2 => ?_) (fun c2 => ?_)
    · unfold big2 at c2
      rw [hu, hd] at c2
      rw [if_pos c2] at ho
      refine ⟨fun w => absurd w (by decide), fun _ => ?_⟩
      unfold wj_M_number_71_2 wj_M_number_94_2
      refine ⟨in5_7, fun t1 e1 => ⟨fun w => absurd w (by decide), fun _ => ⟨in6_7, fun t2 e2 => RM_put (RM_0 work) (by omega) (Or.inl ⟨rfl, Or.inl rfl⟩) fun m' g' u' d' w' hR' => k _ _ _ _ _ _ _ rfl ?_⟩⟩⟩
      rw [if_neg q, ho]; exact hR'
    · unfold big2 at c2
      rw [hu, hd] at c2
      rw [if_neg c2] at ho
      refine ⟨fun _ => ?_, fun w => absurd rfl w⟩
      unfold wj_M_number_71 wj_M_number_94
      rw [c5', c6]
      have hu2 : u.toInt32.toInt = redU p0.toInt p1.toInt := by rw [l_i32 (by omega) (by omega), hu]
      have hd2 : d.toInt32.toInt = redD p0.toInt p1.toInt := by rw [l_i32 (by omega) (by omega), hd]
      have hwf : wfr (upd (upd oneT 5 (Int32.ofInt (redU p0.toInt p1.toInt))) 6 (Int32.ofInt (redD p0.toInt p1.toInt))) 0 := wfr_num oneT_wf (by rw [i_ofInt (by omega) (by omega)]; exact pu) (by rw [i_ofInt (by omega) (by omega)]; omega) (by rw [i_ofInt (by omega) (by omega)]; exact pd) (by rw [i_ofInt (by omega) (by omega)]; omega)
      refine ⟨in5_7, fun t1 e1 => ⟨fun _ => ⟨in6_7, fun t2 e2 => RM_put (RM_0 work) (by omega) (Or.inr ⟨_, rfl, rfl, hwf, fun j hj => ?_⟩) fun m' g' u' d' w' hR' => k _ _ _ _ _ _ _ rfl ?_⟩, fun w => absurd rfl w⟩⟩
      · rw [e2, e1, i_of_eq hu2, i_of_eq hd2]
        rcases (show j < 5 ∨ j = 5 ∨ j = 6 by omega) with z | z | z
        · rw [pk_un (by omega), pk_un (by omega), pk_un (by omega), pk_un (by omega), g j (by omega)]; unfold oneT; rw [if_pos z]
        · rw [z, pk_un (by omega), pk_us, pk_un (by omega), pk_us]
        · rw [z, pk_us, pk_us]
      · rw [if_neg q, ho]; exact hR'
  · rw [nI_1] at e10
    refine hs _ _ ⟨e + 1, e10, by omega, fun j hj => ?_⟩ ?_
    · rw [e9]
      by_cases q : j = e
      · rw [q, pk_us]
      · rw [pk_un q]; exact g j (by omega)
    · show 5 - x10.toNatClampNeg < 5 - (nI e).toNatClampNeg
      rw [e10, nI_clamp (by omega), nI_clamp (by omega)]; omega
theorem number_pair (h : InvK n zs made kept sizes funs qsize qrows) (p q : Int32) : ∃ o : Oc, (∀ s, o = .inr (some s) → n < 80) ∧ (∀ e, o = .inl e → e = 1 ∨ e = 2) ∧
    (∀ size tooG rows taken post postx, GOK o n made kept sizes "java/lang/ArithmeticException" (fun r m k z => ∀ a b c d, post r m a b k z c d) (fun E => ∀ a b c d, postx E made a b kept sizes c d) → wp_G_number made size tooG kept sizes rows taken p q post postx) ∧
    (∀ code qmade great up down work xx post, (∀ b code' funs' qmade' great' up' down' size' rows' work' xx', MR o n funs qsize qrows b code' funs' size' rows' → post b code' funs' qmade' great' up' down' size' rows' work' xx') → wp_M_number code funs qmade great up down qsize qrows work xx p q post) := by
  have hn := h.1
  have hm := h.2.1
  have hfn := h.2.2.1
  by_cases hq : q = 0
  · refine ⟨.inl 1, fun s q => (by cases q), fun e q => (by cases q; exact Or.inl rfl), ?_, ?_⟩
    · intro size tooG rows taken post postx hk
      unfold wp_G_number
      exact ⟨fun w => absurd hq w, fun _ => hk _ _ _ _⟩
    · intro code qmade great up down work xx post hk
      unfold wp_M_number wp_M_raise
      exact ⟨fun w => absurd hq w, fun _ => hk _ _ _ _ _ _ _ _ _ _ _ ⟨rfl, rfl, rfl, rfl⟩⟩
  · rcases Nat.lt_or_ge n 80 with h80 | h80
    · obtain ⟨S, hS⟩ : ∃ S : Sst, S = (if p = 0 then s0 else putS s0 (mulN p.toInt q.toInt (some oneT))) := ⟨_, rfl⟩
      refine ⟨.inr (some S), fun _ _ => h80, fun e q => (by cases q), ?_, ?_⟩
      · intro size tooG rows taken post postx hk
        have keep : ∀ sz tg rw_ tk, RC S 1 sz tg rw_ → wj_G_number_54 made sz tg kept sizes rw_ post tk postx := by
          intro sz tg rw_ tk hR
          unfold wj_G_number_54
          exact G_keep_ok hR (by omega) h80 hm (fun w => hk.1 w _ _ _ _) (fun z f' kept' w1 w2 w3 w4 => hk.2 z f' kept' w1 w2 w3 w4 _ _ _ _)
        unfold wp_G_number
        refine ⟨fun _ => G_reqR_ok hn hm (fun _ => ?_) (fun w => absurd w (by omega)), fun w => absurd w hq⟩
        unfold wp_W_begin
        refine ⟨fun w => keep _ _ _ _ ?_, fun w => W_takeOne_ok fun t ht => W_multiply_ok (TC_one ht) (by rw [l_of_i]; exact i_abs _) (by rw [l_of_i]; exact i_abs _) (by rw [l_of_i]; exact i_ne0 hq) (by rw [l_of_i]; exact i_ne0 w) fun tg1 tk1 hT => RC_put (RC_0 rows) (by omega) hT.1 hT.2 fun a b d hR => keep _ _ _ _ ?_⟩
        · rw [hS, if_pos w]
          obtain ⟨z, a1, a2, a3, a4⟩ := RC_0 rows
          exact ⟨z, a1, by omega, a3, a4⟩
        · rw [l_of_i, l_of_i] at hR
          rw [hS, if_neg w]; exact hR
      · intro code qmade great up down work xx post hk
        unfold wp_M_number wp_M_start
        refine ⟨fun _ => M_number_loop rfl rfl hq fun s mk' gr' work' up' down' xx' e hR => ?_, fun w => absurd w hq⟩
        rw [← hS] at e
        subst e
        unfold wj_M_number_99 wj_M_number_120
        refine ⟨fun _ => M_keep_ok hR (by omega) h80 hfn (fun w3 => hk _ _ _ _ _ _ _ _ _ _ _ (Or.inl ⟨w3, rfl, rfl, rfl, rfl⟩)) (fun z f' rows' w3 w4 w5 w6 => hk _ _ _ _ _ _ _ _ _ _ _ (Or.inr ⟨z, f', w3, w4, w5, rfl, rfl, rfl, w6, rfl⟩)), fun w => ?_⟩
        rw [hfn, f80 hn] at w; omega
    · refine ⟨.inl 2, fun s q => (by cases q), fun e q => (by cases q; exact Or.inr rfl), ?_, ?_⟩
      · intro size tooG rows taken post postx hk
        unfold wp_G_number
        exact ⟨fun _ => G_reqR_ok hn hm (fun w => absurd w (by omega)) (fun _ => hk _ _ _ _), fun w => absurd w hq⟩
      · intro code qmade great up down work xx post hk
        unfold wp_M_number wp_M_start
        refine ⟨fun _ => M_number_loop rfl rfl hq fun s mk' gr' work' up' down' xx' e hR => ?_, fun w => absurd w hq⟩
        unfold wj_M_number_99 wj_M_number_120 wp_M_raise
        refine ⟨fun w => ?_, fun _ => hk _ _ _ _ _ _ _ _ _ _ _ ⟨rfl, rfl, rfl, rfl⟩⟩
        rw [hfn, f80 hn] at w; omega
end Nu
