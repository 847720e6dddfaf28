/-! TERMS: a term times a number, with exponents raised: the class step by step, the reference at once. -/
def rais (c : Nat) (y : Int) (o : Option (Nat → Int32)) : Option (Nat → Int32) := match o with
  | none => none
  | some t => if -99 ≤ (t c).toInt + y ∧ (t c).toInt + y ≤ 99 then some (upd t c (Int32.ofInt ((t c).toInt + y))) else none
def mulN (a b : Int) (o : Option (Nat → Int32)) : Option (Nat → Int32) := match o with
  | none => none
  | some t => if 1000000 < (redU ((t 5).toInt * a) ((t 6).toInt * b)).natAbs ∨ 1000000 < redD ((t 5).toInt * a) ((t 6).toInt * b) then none
    else some (upd (upd t 5 (Int32.ofInt (redU ((t 5).toInt * a) ((t 6).toInt * b)))) 6 (Int32.ofInt (redD ((t 5).toInt * a) ((t 6).toInt * b))))
/-- the class's taken term, and its mark, against a term or none -/
def TC (o : Option (Nat → Int32)) (tg0 tg1 : Int32) (taken : Nat → Int32) : Prop := wfr taken 0 ∧ ((o = none ∧ tg1 = 1) ∨ ∃ t, o = some t ∧ tg1 = tg0 ∧ eqp 7 taken t)
theorem wfr0 {t : Nat → Int32} (h : wfr t 0) : (∀ j, j < 5 → wfe (t j)) ∧ (t 5).toInt ≠ 0 ∧ (t 5).toInt.natAbs ≤ 1000000 ∧ 1 ≤ (t 6).toInt ∧ (t 6).toInt ≤ 1000000 := by
  obtain ⟨h1, h2, h3, h4, h5⟩ := h
  rw [Nat.zero_add] at h2 h3 h4 h5
  exact ⟨fun j hj => by have := h1 j hj; rwa [Nat.zero_add] at this, h2, h3, h4, h5⟩
theorem wfr_of {t : Nat → Int32} (h1 : ∀ j, j < 5 → wfe (t j)) (h2 : (t 5).toInt ≠ 0) (h3 : (t 5).toInt.natAbs ≤ 1000000) (h4 : 1 ≤ (t 6).toInt) (h5 : (t 6).toInt ≤ 1000000) : wfr t 0 := by
  unfold wfr; rw [Nat.zero_add, Nat.zero_add]
  exact ⟨fun j hj => by rw [Nat.zero_add]; exact h1 j hj, h2, h3, h4, h5⟩
theorem wfr_num {t : Nat → Int32} {u d : Int32} (h : wfr t 0) (h2 : u.toInt ≠ 0) (h3 : u.toInt.natAbs ≤ 1000000) (h4 : 1 ≤ d.toInt) (h5 : d.toInt ≤ 1000000) : wfr (upd (upd t 5 u) 6 d) 0 := by
  have e5 : upd (upd t 5 u) 6 d 5 = u := by rw [pk_un (by omega), pk_us]
  have e6 : upd (upd t 5 u) 6 d 6 = d := pk_us
  refine wfr_of (fun j hj => ?_) (by rw [e5]; exact h2) (by rw [e5]; exact h3) (by rw [e6]; exact h4) (by rw [e6]; exact h5)
  rw [pk_un (by omega), pk_un (by omega)]; exact (wfr0 h).1 j hj
theorem eqp_upd {n k : Nat} {f g : Nat → Int32} {x : Int32} (h : eqp n f g) : eqp n (upd f k x) (upd g k x) := fun j hj => by
  by_cases c : j = k
  · rw [c, pk_us, pk_us]
  · rw [pk_un c, pk_un c]; exact h j hj
theorem W_multiply_ok {o : Option (Nat → Int32)} {tg0 tg : Int32} {taken : Nat → Int32} {a b : Int64} {post : Int32 → (Nat → Int32) → Prop} (h : TC o tg0 tg taken) (ha : a.toInt.natAbs ≤ 2147483648) (hb : b.toInt.natAbs ≤ 2147483648) (hne : b.toInt ≠ 0) (ha0 : a.toInt ≠ 0)
    (k : ∀ tg' taken', TC (mulN a.toInt b.toInt o) tg0 tg' taken' → post tg' taken') : wp_W_multiply tg taken a b post := by
  obtain ⟨hw, ho⟩ := h
  obtain ⟨w1, w2, w3, w4, w5⟩ := wfr0 hw
  have c6 : (6 : Int32).toNatClampNeg = 6 := by decide
  have c5' : (5 : Int32).toNatClampNeg = 5 := by decide
  have m1 := mul_bd w3 ha
  have m2 := mul_bd (show (taken 6).toInt.natAbs ≤ 1000000 by omega) hb
  have e1 : ((taken 5).toInt64 * a).toInt = (taken 5).toInt * a.toInt := by rw [l_mul (by rw [l_of_i]; omega) (by rw [l_of_i]; omega), l_of_i]
  have e2 : ((taken 6).toInt64 * b).toInt = (taken 6).toInt * b.toInt := by rw [l_mul (by rw [l_of_i]; omega) (by rw [l_of_i]; omega), l_of_i]
  have hB : (taken 6).toInt * b.toInt ≠ 0 := Int.mul_ne_zero (by omega) hne
  have hA : (taken 5).toInt * a.toInt ≠ 0 := Int.mul_ne_zero w2 ha0
  unfold wp_W_multiply
  rw [c6, c5']
  refine ⟨in5_7, in6_7, W_setNumber_t_ok (by rw [e1]; omega) (by rw [e2]; omega) (by rw [e2]; exact hB) ?_ ?_⟩
  · rw [e1, e2]
    intro c
    unfold big2 at c
    refine k _ _ ⟨hw, Or.inl ⟨?_, rfl⟩⟩
    rcases ho with ⟨q, -⟩ | ⟨t, q, -, q3⟩
    · rw [q]; rfl
    · rw [q]
      rw [q3 5 (by omega), q3 6 (by omega)] at c
      show (if _ then none else _) = none
      rw [if_pos c]
  · intro u d hu hd c
    rw [e1, e2] at hu hd c
    have pd := redD_pos (a := (taken 5).toInt * a.toInt) hB
    have pu := redU_ne (b := (taken 6).toInt * b.toInt) hA
    unfold big2 at c
    refine k _ _ ⟨wfr_num hw (by rw [hu]; exact pu) (by omega) (by omega) (by omega), ?_⟩
    rcases ho with ⟨q, q2⟩ | ⟨t, q, q2, q3⟩
    · exact Or.inl ⟨by rw [q]; rfl, q2⟩
    · right
      rw [q3 5 (by omega), q3 6 (by omega)] at hu hd c
      refine ⟨upd (upd t 5 u) 6 d, ?_, q2, eqp_upd (eqp_upd q3)⟩
      rw [q, i_of_eq hu, i_of_eq hd]
      show (if _ then none else some _) = _
      rw [if_neg c]
theorem W_raise_ok {o : Option (Nat → Int32)} {tg0 tg y : Int32} {taken : Nat → Int32} {c : Nat} {post : Int32 → (Nat → Int32) → Prop} (h : TC o tg0 tg taken) (hc : c < 5) (hy : y.toInt.natAbs ≤ 1000000)
    (k : ∀ tg' taken', TC (rais c y.toInt o) tg0 tg' taken' → post tg' taken') : wp_W_raise tg taken (nI c) y post := by
  obtain ⟨hw, ho⟩ := h
  obtain ⟨w1, w2, w3, w4, w5⟩ := wfr0 hw
  have wc := w1 c hc
  unfold wfe at wc
  unfold wp_W_raise
  rw [nI_clamp (by omega)]
  refine ⟨vp_in_nI (by omega) (by omega), fun x2 e2 => ?_⟩
  have hx : x2.toInt = (taken c).toInt + y.toInt := by rw [e2, i_add (by omega) (by omega)]
  have c1 : x2 < -99 ↔ (taken c).toInt + y.toInt < -99 := by rw [Int32.lt_iff_toInt_lt, hx]; rfl
  have c2 : x2 ≤ 99 ↔ (taken c).toInt + y.toInt ≤ 99 := by rw [Int32.le_iff_toInt_le, hx]; rfl
  rw [c1, c2]
  have bad : ¬ (-99 ≤ (taken c).toInt + y.toInt ∧ (taken c).toInt + y.toInt ≤ 99) → post 1 taken := fun q => by
    refine k _ _ ⟨hw, Or.inl ⟨?_, rfl⟩⟩
    rcases ho with ⟨q1, -⟩ | ⟨t, q1, -, q3⟩
    · rw [q1]; rfl
    · rw [q1]
      rw [q3 c (by omega)] at q
      show (if _ then some _ else none) = none
      rw [if_neg q]
  refine ⟨fun q => bad (by omega), fun q => ⟨fun q2 => ⟨vp_in_nI (by omega) (by omega), fun t6 e6 => ?_⟩, fun q2 => bad (by omega)⟩⟩
  refine k _ _ ⟨?_, ?_⟩
  · rw [e6]
    refine wfr_of (fun j hj => ?_) (by rw [pk_un (by omega)]; exact w2) (by rw [pk_un (by omega)]; exact w3) (by rw [pk_un (by omega)]; exact w4) (by rw [pk_un (by omega)]; exact w5)
    by_cases z : j = c
    · rw [z, pk_us]; unfold wfe; omega
    · rw [pk_un z]; exact w1 j hj
  · rcases ho with ⟨q1, q3⟩ | ⟨t, q1, q4, q3⟩
    · exact Or.inl ⟨by rw [q1]; rfl, q3⟩
    · right
      refine ⟨upd t c x2, ?_, q4, by rw [e6]; exact eqp_upd q3⟩
      rw [q3 c (by omega)] at hx
      rw [q1, i_of_eq hx]
      rw [q3 c (by omega)] at q q2
      show (if _ then some _ else none) = _
      rw [if_pos (by omega)]
/-- all five exponents raised, one by one -/
def term5 (o : Option (Nat → Int32)) (dl : Nat → Int) : Nat → Option (Nat → Int32)
  | 0 => o
  | e + 1 => rais e (dl e) (term5 o dl e)
theorem term5_none (dl : Nat → Int) : ∀ e, term5 none dl e = none
  | 0 => rfl
  | e + 1 => by unfold term5; rw [term5_none dl e]; rfl
def rowE (t : Nat → Int32) (dl : Nat → Int) (e : Nat) : Nat → Int32 := fun j => if j < e then Int32.ofInt ((t j).toInt + dl j) else t j
theorem term5_some (t : Nat → Int32) (dl : Nat → Int) : ∀ e, ((∀ j, j < e → -99 ≤ (t j).toInt + dl j ∧ (t j).toInt + dl j ≤ 99) ∧ term5 (some t) dl e = some (rowE t dl e)) ∨ ((∃ j, j < e ∧ ¬ (-99 ≤ (t j).toInt + dl j ∧ (t j).toInt + dl j ≤ 99)) ∧ term5 (some t) dl e = none)
  | 0 => Or.inl ⟨fun j h => absurd h (Nat.not_lt_zero j), by
      show some t = some _
      congr 1⟩
  | e + 1 => by
    rcases term5_some t dl e with ⟨h1, h2⟩ | ⟨⟨j, j1, j2⟩, h2⟩
    · have he : rowE t dl e e = t e := by unfold rowE; rw [if_neg (by omega)]
      by_cases c : -99 ≤ (t e).toInt + dl e ∧ (t e).toInt + dl e ≤ 99
      · left
        refine ⟨fun j hj => ?_, ?_⟩
        · rcases Nat.lt_or_ge j e with q | q
          · exact h1 j q
          · have : j = e := by omega
            rw [this]; exact c
        · show rais e (dl e) (term5 (some t) dl e) = _
          rw [h2]
          show (if _ then some _ else none) = _
          rw [he, if_pos c]
          congr 1
          funext j
          unfold rowE upd
          by_cases q : j = e
          · rw [if_pos q, if_pos (by omega), q]
          · rw [if_neg q]
            dsimp only
            by_cases q2 : j < e
            · rw [if_pos q2, if_pos (by omega)]
            · rw [if_neg q2, if_neg (by omega)]
      · right
        refine ⟨⟨e, by omega, c⟩, ?_⟩
        show rais e (dl e) (term5 (some t) dl e) = _
        rw [h2]
        show (if _ then some _ else none) = _
        rw [he, if_neg c]
    · right
      refine ⟨⟨j, by omega, j2⟩, ?_⟩
      show rais e (dl e) (term5 (some t) dl e) = _
      rw [h2]; rfl
/-- a term times a over b, its exponents raised by dl: none if that is TOO GREAT -/
def mkT (t : Nat → Int32) (a b : Int) (dl : Nat → Int) : Option (Nat → Int32) := term5 (mulN a b (some t)) dl 5
theorem wfr_rowE {t : Nat → Int32} {dl : Nat → Int} (h : wfr t 0) (hd : ∀ j, j < 5 → -99 ≤ (t j).toInt + dl j ∧ (t j).toInt + dl j ≤ 99) : wfr (rowE t dl 5) 0 := by
  obtain ⟨w1, w2, w3, w4, w5⟩ := wfr0 h
  have e5 : rowE t dl 5 5 = t 5 := by unfold rowE; rw [if_neg (by omega)]
  have e6 : rowE t dl 5 6 = t 6 := by unfold rowE; rw [if_neg (by omega)]
  refine wfr_of (fun j hj => ?_) (by rw [e5]; exact w2) (by rw [e5]; exact w3) (by rw [e6]; exact w4) (by rw [e6]; exact w5)
  have := hd j hj
  unfold rowE wfe
  rw [if_pos hj, i_ofInt (by omega) (by omega)]; exact this
/-- the reference's scale, where it isn't TOO GREAT yet -/
theorem M_scale_ok {up down : Int64} {xx : Nat → Int32} {a b : Int64} {post : Int32 → Int64 → Int64 → (Nat → Int32) → Prop} (h1 : (xx 5).toInt ≠ 0) (h2 : (xx 5).toInt.natAbs ≤ 1000000) (h3 : 1 ≤ (xx 6).toInt) (h4 : (xx 6).toInt ≤ 1000000) (ha : a.toInt.natAbs ≤ 1000000) (hb : b.toInt.natAbs ≤ 1000000) (hne : b.toInt ≠ 0)
    (k1 : (1000000 < (redU ((xx 5).toInt * a.toInt) ((xx 6).toInt * b.toInt)).natAbs ∨ 1000000 < redD ((xx 5).toInt * a.toInt) ((xx 6).toInt * b.toInt)) → ∀ u d xx', post 1 u d xx')
    (k2 : ¬ (1000000 < (redU ((xx 5).toInt * a.toInt) ((xx 6).toInt * b.toInt)).natAbs ∨ 1000000 < redD ((xx 5).toInt * a.toInt) ((xx 6).toInt * b.toInt)) → ∀ u d, post 0 u d (upd (upd xx 5 (Int32.ofInt (redU ((xx 5).toInt * a.toInt) ((xx 6).toInt * b.toInt)))) 6 (Int32.ofInt (redD ((xx 5).toInt * a.toInt) ((xx 6).toInt * b.toInt))))) : wp_M_scale 0 up down xx a b post := by
  have c6 : (6 : Int32).toNatClampNeg = 6 := by decide
  have c5' : (5 : Int32).toNatClampNeg = 5 := by decide
  unfold wp_M_scale
  rw [c6, c5']
  refine ⟨in5_7, M_divisor_ok (by rw [l_of_i]; omega) (by omega) ⟨in6_7, M_divisor_ok (by omega) (by rw [l_of_i]; omega) ?_⟩⟩
  rw [l_of_i, l_of_i]
  obtain ⟨g, hg⟩ : ∃ g, g = Int.gcd (xx 5).toInt b.toInt := ⟨_, rfl⟩
  obtain ⟨h, hh⟩ : ∃ h, h = Int.gcd a.toInt (xx 6).toInt := ⟨_, rfl⟩
  rw [← hg, ← hh]
  have g0 : g ≠ 0 := by rw [hg]; exact gcd_ne hne
  have h0 : h ≠ 0 := by rw [hh]; exact gcd_ne (by omega)
  have gb : g ≤ 1000000 := Nat.le_trans (by rw [hg]; exact Nat.le_of_dvd (by omega) (Nat.gcd_dvd_right _ _)) hb
  have hb2 : h ≤ 1000000 := Nat.le_trans (by rw [hh]; exact Nat.le_of_dvd (by omega) (Nat.gcd_dvd_right _ _)) (show (xx 6).toInt.natAbs ≤ 1000000 by omega)
  have G : (lN g).toInt = (g : Int) := pk_lT (by omega)
  have Hh : (lN h).toInt = (h : Int) := pk_lT (by omega)
  have ng : ¬ lN g = 0 := l_ne (by rw [G]; omega)
  have nh : ¬ lN h = 0 := l_ne (by rw [Hh]; omega)
  refine ⟨in5_7, ng, nh, in6_7, nh, ng, ?_⟩
  -- the four quotients
  obtain ⟨x5, hx5⟩ : (g : Int) ∣ (xx 5).toInt := by rw [hg]; exact Int.gcd_dvd_left _ _
  obtain ⟨bq, hbq⟩ : (g : Int) ∣ b.toInt := by rw [hg]; exact Int.gcd_dvd_right _ _
  obtain ⟨aq, haq⟩ : (h : Int) ∣ a.toInt := by rw [hh]; exact Int.gcd_dvd_left _ _
  obtain ⟨x6, hx6⟩ : (h : Int) ∣ (xx 6).toInt := by rw [hh]; exact Int.gcd_dvd_right _ _
  have d1 : ((xx 5).toInt64 / lN g).toInt = x5 := by rw [l_div (by rw [l_of_i]; omega), l_of_i, G, hx5, Int.mul_tdiv_cancel_left _ (by omega)]
  have d2 : (a / lN h).toInt = aq := by rw [l_div (by omega), Hh, haq, Int.mul_tdiv_cancel_left _ (by omega)]
  have d3 : ((xx 6).toInt64 / lN h).toInt = x6 := by rw [l_div (by rw [l_of_i]; omega), l_of_i, Hh, hx6, Int.mul_tdiv_cancel_left _ (by omega)]
  have d4 : (b / lN g).toInt = bq := by rw [l_div (by omega), G, hbq, Int.mul_tdiv_cancel_left _ (by omega)]
  have le : ∀ {m : Int} {n : Nat} {q : Int}, n ≠ 0 → m = (n : Int) * q → m.natAbs ≤ 1000000 → q.natAbs ≤ 1000000 := fun {m n q} hn e hm => by
    rw [e, Int.natAbs_mul, Int.natAbs_natCast] at hm
    exact Nat.le_trans (Nat.le_mul_of_pos_left _ (by omega)) hm
  have b1 := le g0 hx5 h2
  have b2 := le h0 haq ha
  have b3 := le h0 hx6 (by omega)
  have b4 := le g0 hbq hb
  have p1 := mul_bd b1 b2
  have p2 := mul_bd b3 b4
  have eU : (((xx 5).toInt64 / lN g) * (a / lN h)).toInt = x5 * aq := by rw [l_mul (by rw [d1, d2]; omega) (by rw [d1, d2]; omega), d1, d2]
  have eD : (((xx 6).toInt64 / lN h) * (b / lN g)).toInt = x6 * bq := by rw [l_mul (by rw [d3, d4]; omega) (by rw [d3, d4]; omega), d3, d4]
  have hD0 : x6 * bq ≠ 0 := Int.mul_ne_zero (fun q => by rw [q, Int.mul_zero] at hx6; omega) (fun q => by rw [q, Int.mul_zero] at hbq; omega)
  have f1 : (xx 5).toInt * a.toInt = ((g * h : Nat) : Int) * (x5 * aq) := by rw [hx5, haq, Int.natCast_mul, Int.mul_assoc, Int.mul_assoc, Int.mul_left_comm x5]
  have f2 : (xx 6).toInt * b.toInt = ((g * h : Nat) : Int) * (x6 * bq) := by rw [hx6, hbq, Int.natCast_mul]; ac_rfl
  obtain ⟨r1, r2⟩ := red_mul (a := x5 * aq) (b := x6 * bq) (c := g * h) (Nat.mul_pos (by omega) (by omega))
  rw [← f1, ← f2] at r1 r2
  refine M_lowest_ok (by rw [eU]; omega) (by rw [eD]; omega) (by rw [eD]; exact hD0) fun u d hu hd => ?_
  rw [eU, eD, ← r1] at hu
  rw [eU, eD, ← r2] at hd
  have hB : (xx 6).toInt * b.toInt ≠ 0 := Int.mul_ne_zero (by omega) hne
  have pd := redD_pos (a := (xx 5).toInt * a.toInt) hB
  have bu : u.toInt.natAbs ≤ 2 ^ 62 := by rw [hu]; have := mul_bd h2 ha; exact Nat.le_trans (tdiv_le _ _) (by omega)
  refine M_bound_ok bu (fun c => ?_) (fun c => ?_)
  · unfold big2 at c
    rw [hu, hd] at c
    refine ⟨fun w => absurd w (by decide), fun _ => ?_⟩
    unfold wj_M_scale_87_2 wj_M_scale_110_2
    exact ⟨in5_7, fun t e => ⟨fun w => absurd w (by decide), fun _ => ⟨in6_7, fun t2 e2 => k1 c _ _ _⟩⟩⟩
  · unfold big2 at c
    rw [hu, hd] at c
    refine ⟨fun _ => ?_, fun w => absurd rfl w⟩
    unfold wj_M_scale_87 wj_M_scale_110
    rw [c5', c6]
    refine ⟨in5_7, fun t e => ⟨fun _ => ⟨in6_7, fun t2 e2 => ?_⟩, fun w => absurd rfl w⟩⟩
    have hu2 : u.toInt32.toInt = redU ((xx 5).toInt * a.toInt) ((xx 6).toInt * b.toInt) := by rw [l_i32 (by omega) (by omega), hu]
    have hd2 : d.toInt32.toInt = redD ((xx 5).toInt * a.toInt) ((xx 6).toInt * b.toInt) := by rw [l_i32 (by omega) (by omega), hd]
    rw [e2, e, i_of_eq hu2, i_of_eq hd2]
    exact k2 c _ _
