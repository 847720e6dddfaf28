/-! LOWEST TERMS: what both sides make of a fraction. -/
def redU (a b : Int) : Int := a.tdiv (sgD b (Int.gcd a b))
def redD (a b : Int) : Int := b.tdiv (sgD b (Int.gcd a b))
/-- a part is above what is allowed -/
def big2 (u d : Int) : Prop := 1000000 < u.natAbs ∨ 1000000 < d
theorem sgD_ne {b : Int} {g : Nat} (h : g ≠ 0) : sgD b g ≠ 0 := by unfold sgD; split <;> omega
theorem gcd_ne {a b : Int} (hb : b ≠ 0) : Int.gcd a b ≠ 0 := fun q => hb (Int.gcd_eq_zero_iff.mp q).2
theorem sgD_dvd {a b : Int} : sgD b (Int.gcd a b) ∣ b ∧ sgD b (Int.gcd a b) ∣ a := by
  unfold sgD
  split
  · exact ⟨Int.neg_dvd.mpr (Int.gcd_dvd_right _ _), Int.neg_dvd.mpr (Int.gcd_dvd_left _ _)⟩
  · exact ⟨Int.gcd_dvd_right _ _, Int.gcd_dvd_left _ _⟩
theorem redD_mul {a b : Int} : sgD b (Int.gcd a b) * redD a b = b := Int.mul_tdiv_cancel' sgD_dvd.1
theorem redU_mul {a b : Int} : sgD b (Int.gcd a b) * redU a b = a := Int.mul_tdiv_cancel' sgD_dvd.2
theorem redD_pos {a b : Int} (hb : b ≠ 0) : 1 ≤ redD a b := by
  have h := redD_mul (a := a) (b := b)
  have hg := gcd_ne (a := a) hb
  rcases (by omega : 0 < redD a b ∨ redD a b ≤ 0) with q | q
  · omega
  · exfalso
    have hs : (b < 0 ∧ sgD b (Int.gcd a b) ≤ 0) ∨ (0 < b ∧ 0 ≤ sgD b (Int.gcd a b)) := by
      unfold sgD
      rcases (by omega : b < 0 ∨ 0 ≤ b) with z | z
      · left; rw [if_pos z]; omega
      · right; rw [if_neg (by omega)]; omega
    rcases hs with ⟨z, w⟩ | ⟨z, w⟩
    · have := Int.mul_nonneg_of_nonpos_of_nonpos w q
      omega
    · have := Int.mul_nonpos_of_nonneg_of_nonpos w q
      omega
theorem redU_ne {a b : Int} (ha : a ≠ 0) : redU a b ≠ 0 := fun q => by
  have h := redU_mul (a := a) (b := b)
  rw [q, Int.mul_zero] at h
  exact ha h.symm
theorem sgD_mul {b : Int} {c g : Nat} (hc : 0 < c) : sgD (c * b) (c * g) = c * sgD b g := by
  unfold sgD
  by_cases h : b < 0
  · rw [if_pos h, if_pos (Int.mul_neg_of_pos_of_neg (by omega) h), Int.mul_neg]; rfl
  · rw [if_neg h, if_neg (by have := Int.mul_nonneg (show (0 : Int) ≤ c by omega) (show 0 ≤ b by omega); omega)]; rfl
theorem red_mul {a b : Int} {c : Nat} (hc : 0 < c) : redU (c * a) (c * b) = redU a b ∧ redD (c * a) (c * b) = redD a b := by
  have e : Int.gcd ((c : Int) * a) (c * b) = c * Int.gcd a b := by rw [Int.gcd_mul_left, Int.natAbs_natCast]
  unfold redU redD
  rw [e, sgD_mul hc]
  exact ⟨Int.mul_tdiv_mul_of_pos _ _ (by omega), Int.mul_tdiv_mul_of_pos _ _ (by omega)⟩
theorem tdiv_le (a b : Int) : (a.tdiv b).natAbs ≤ a.natAbs := by rw [Int.natAbs_tdiv]; exact Nat.div_le_self _ _
theorem l_div {x y : Int64} (h : x.toInt.natAbs ≤ 2 ^ 62) : (x / y).toInt = x.toInt.tdiv y.toInt := by
  have := tdiv_le x.toInt y.toInt
  rw [Int64.toInt_div, l_bm (by omega) (by omega)]
theorem l_ne {x : Int64} (h : x.toInt ≠ 0) : ¬ x = 0 := fun q => h (by rw [q]; rfl)
theorem l_million : (1000000 : Int64).toInt = 1000000 := by decide
theorem l_i32 {x : Int64} (h1 : -2 ^ 31 ≤ x.toInt) (h2 : x.toInt < 2 ^ 31) : x.toInt32.toInt = x.toInt := by rw [Int64.toInt_toInt32, i_bm h1 h2]
theorem W_setNumber_t_ok {tooG : Int32} {taken : Nat → Int32} {a b : Int64} {post : Int32 → (Nat → Int32) → Prop} (ha : a.toInt.natAbs ≤ 2 ^ 62) (hb : b.toInt.natAbs ≤ 2 ^ 62) (hne : b.toInt ≠ 0)
    (k1 : big2 (redU a.toInt b.toInt) (redD a.toInt b.toInt) → post 1 taken) (k2 : ∀ u d : Int32, u.toInt = redU a.toInt b.toInt → d.toInt = redD a.toInt b.toInt → ¬ big2 (redU a.toInt b.toInt) (redD a.toInt b.toInt) → post tooG (upd (upd taken 5 u) 6 d)) : wp_W_setNumber_t tooG taken 0 a b post := by
  unfold wp_W_setNumber_t
  refine G_divisorOf_ok ha hb hne fun d hd => ?_
  have hd0 : d.toInt ≠ 0 := by rw [hd]; exact sgD_ne (gcd_ne hne)
  refine ⟨l_ne hd0, fun x4 e4 => ⟨l_ne hd0, fun x6 e6 => ?_⟩⟩
  have h4 : x4.toInt = redU a.toInt b.toInt := by rw [e4, l_div ha, hd]; rfl
  have h6 : x6.toInt = redD a.toInt b.toInt := by rw [e6, l_div hb, hd]; rfl
  have b4 : x4.toInt.natAbs ≤ 2 ^ 62 := by rw [h4]; exact Nat.le_trans (tdiv_le _ _) ha
  have p6 := redD_pos (a := a.toInt) hne
  rw [l_abs (by omega)]
  have c4 : (0 < lg_cmp (lN x4.toInt.natAbs) 1000000) ↔ 1000000 < x4.toInt.natAbs := by
    rw [lg_cmp_gt, Int64.lt_iff_toInt_lt, l_million, pk_lT (by omega)]; omega
  have c6 : (lg_cmp x6 1000000 ≤ 0) ↔ x6.toInt ≤ 1000000 := by
    rw [lg_cmp_le, Int64.le_iff_toInt_le, l_million]
  rw [c4, c6]
  refine ⟨fun c => k1 (Or.inl (by rw [← h4]; exact c)), fun c => ⟨fun c2 => ?_, fun c2 => k1 (Or.inr (by rw [← h6]; omega))⟩⟩
  refine ⟨pk_in 5 7 (by omega), fun t1 e1 => ⟨pk_in 6 7 (by omega), fun t2 e2 => ?_⟩⟩
  rw [e2, e1]
  exact k2 _ _ (by rw [l_i32 (by omega) (by omega), h4]) (by rw [l_i32 (by omega) (by omega), h6]) (fun q => by
    rcases q with q | q
    · rw [← h4] at q; exact c q
    · rw [← h6] at q; omega)
theorem W_setNumber_r_ok {tooG : Int32} {rows : Nat → Int32} {a b : Int64} {r : Nat} {post : Int32 → (Nat → Int32) → Prop} (hr : 7 * r + 7 ≤ 700) (ha : a.toInt.natAbs ≤ 2 ^ 62) (hb : b.toInt.natAbs ≤ 2 ^ 62) (hne : b.toInt ≠ 0)
    (k1 : big2 (redU a.toInt b.toInt) (redD a.toInt b.toInt) → post 1 rows) (k2 : ∀ u d : Int32, u.toInt = redU a.toInt b.toInt → d.toInt = redD a.toInt b.toInt → ¬ big2 (redU a.toInt b.toInt) (redD a.toInt b.toInt) → post tooG (upd (upd rows (7 * r + 5) u) (7 * r + 6) d)) : wp_W_setNumber_r tooG rows (nI (7 * r)) a b post := by
  unfold wp_W_setNumber_r
  refine G_divisorOf_ok ha hb hne fun d hd => ?_
  have hd0 : d.toInt ≠ 0 := by rw [hd]; exact sgD_ne (gcd_ne hne)
  refine ⟨l_ne hd0, fun x4 e4 => ⟨l_ne hd0, fun x6 e6 => ?_⟩⟩
  have h4 : x4.toInt = redU a.toInt b.toInt := by rw [e4, l_div ha, hd]; rfl
  have h6 : x6.toInt = redD a.toInt b.toInt := by rw [e6, l_div hb, hd]; rfl
  have b4 : x4.toInt.natAbs ≤ 2 ^ 62 := by rw [h4]; exact Nat.le_trans (tdiv_le _ _) ha
  have p6 := redD_pos (a := a.toInt) hne
  rw [l_abs (by omega)]
  have c4 : (0 < lg_cmp (lN x4.toInt.natAbs) 1000000) ↔ 1000000 < x4.toInt.natAbs := by
    rw [lg_cmp_gt, Int64.lt_iff_toInt_lt, l_million, pk_lT (by omega)]; omega
  have c6 : (lg_cmp x6 1000000 ≤ 0) ↔ x6.toInt ≤ 1000000 := by
    rw [lg_cmp_le, Int64.le_iff_toInt_le, l_million]
  have e5 : nI (7 * r) + 5 = nI (7 * r + 5) := nI_add _ 5
  have e6' : nI (7 * r) + 6 = nI (7 * r + 6) := nI_add _ 6
  rw [c4, c6, e5, e6', nI_clamp (by omega), nI_clamp (by omega)]
  refine ⟨fun c => k1 (Or.inl (by rw [← h4]; exact c)), fun c => ⟨fun c2 => ?_, fun c2 => k1 (Or.inr (by rw [← h6]; omega))⟩⟩
  refine ⟨vp_in_nI (by omega) (by omega), fun t1 e1 => ⟨vp_in_nI (by omega) (by omega), fun t2 e2 => ?_⟩⟩
  rw [e2, e1]
  exact k2 _ _ (by rw [l_i32 (by omega) (by omega), h4]) (by rw [l_i32 (by omega) (by omega), h6]) (fun q => by
    rcases q with q | q
    · rw [← h4] at q; exact c q
    · rw [← h6] at q; omega)
/-- the reference's lowest terms -/
theorem M_lowest_ok {up down a b : Int64} {post : Int64 → Int64 → Prop} (ha : a.toInt.natAbs ≤ 2 ^ 62) (hb : b.toInt.natAbs ≤ 2 ^ 62) (hne : b.toInt ≠ 0)
    (k : ∀ u d : Int64, u.toInt = redU a.toInt b.toInt → d.toInt = redD a.toInt b.toInt → post u d) : wp_M_lowest up down a b post := by
  unfold wp_M_lowest
  refine M_divisor_ok (by omega) (by omega) ?_
  have hg := gcd_ne (a := a.toInt) hne
  have hgb : Int.gcd a.toInt b.toInt ≤ 2 ^ 62 := Nat.le_trans (Nat.le_of_dvd (by omega) (Nat.gcd_dvd_right _ _)) hb
  have hG : (lN (Int.gcd a.toInt b.toInt)).toInt = (Int.gcd a.toInt b.toInt : Int) := pk_lT (by omega)
  have h0 : ¬ lN (Int.gcd a.toInt b.toInt) = 0 := l_ne (by rw [hG]; omega)
  have hN : (lN b.toInt.natAbs).toInt = (b.toInt.natAbs : Int) := pk_lT (by omega)
  constructor
  · intro c
    rw [lg_cmp_ge, Int64.le_iff_toInt_le, l_0] at c
    refine ⟨h0, fun x5 e5 => M_size_ok (by omega) ⟨h0, fun x9 e9 => k _ _ ?_ ?_⟩⟩
    · rw [e5, l_div ha, hG]; unfold redU sgD; rw [if_neg (by omega)]
    · rw [e9, l_div (by rw [hN]; omega), hG, hN]; unfold redD sgD; rw [if_neg (by omega), Int.natAbs_of_nonneg c]
  · intro c
    rw [lg_cmp_ge, Int64.le_iff_toInt_le, l_0] at c
    refine ⟨h0, fun x5 e5 => M_size_ok (by omega) ⟨h0, fun x9 e9 => k _ _ ?_ ?_⟩⟩
    · have hn : (-a).toInt = -a.toInt := l_neg (by omega)
      rw [e5, l_div (by rw [hn]; omega), hG, hn]; unfold redU sgD; rw [if_pos (by omega), Int.tdiv_neg, Int.neg_tdiv]
    · rw [e9, l_div (by rw [hN]; omega), hG, hN]; unfold redD sgD
      rw [if_pos (by omega), Int.tdiv_neg, ← Int.neg_tdiv]
      congr 1; omega
theorem M_bound_ok {great : Int32} {u d : Int64} {post : Int32 → Prop} (hu : u.toInt.natAbs ≤ 2 ^ 62) (k1 : big2 u.toInt d.toInt → post 1) (k2 : ¬ big2 u.toInt d.toInt → post great) : wp_M_bound great u d post := by
  unfold wp_M_bound
  refine M_size_ok (by omega) ?_
  have c4 : (0 < lg_cmp (lN u.toInt.natAbs) 1000000) ↔ 1000000 < u.toInt.natAbs := by
    rw [lg_cmp_gt, Int64.lt_iff_toInt_lt, l_million, pk_lT (by omega)]; omega
  have c6 : (lg_cmp d 1000000 ≤ 0) ↔ d.toInt ≤ 1000000 := by
    rw [lg_cmp_le, Int64.le_iff_toInt_le, l_million]
  rw [c4, c6]
  refine ⟨fun c => k1 (Or.inl c), fun c => ⟨fun c2 => k2 (fun q => ?_), fun c2 => k1 (Or.inr (by omega))⟩⟩
  rcases q with q | q
  · exact c q
  · omega
