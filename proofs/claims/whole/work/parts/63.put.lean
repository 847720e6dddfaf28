/-! PUT: a term onto a sum, as the document says it, on arrays of rows of seven; the class's way. -/
theorem in5_7 : vp_in (5 : Int32) 7 := pk_in 5 7 (by omega)
theorem in6_7 : vp_in (6 : Int32) 7 := pk_in 6 7 (by omega)
def eqp (n : Nat) (f g : Nat → Int32) : Prop := ∀ j, j < n → f j = g j
def wfe (x : Int32) : Prop := -99 ≤ x.toInt ∧ x.toInt ≤ 99
def wfr (f : Nat → Int32) (a : Nat) : Prop := (∀ j, j < 5 → wfe (f (a + j))) ∧ (f (a + 5)).toInt ≠ 0 ∧ (f (a + 5)).toInt.natAbs ≤ 1000000 ∧ 1 ≤ (f (a + 6)).toInt ∧ (f (a + 6)).toInt ≤ 1000000
def wfs (f : Nat → Int32) (z : Nat) : Prop := srt f z ∧ ∀ i, i < z → wfr f (7 * i)
def ins (f : Nat → Int32) (k : Nat) (t : Nat → Int32) : Nat → Int32 := fun j => if j < 7 * k then f j else if j < 7 * k + 7 then t (j - 7 * k) else f (j - 7)
def del (f : Nat → Int32) (k : Nat) : Nat → Int32 := fun j => if j < 7 * k then f j else f (j + 7)
def set2 (f : Nat → Int32) (k : Nat) (u d : Int32) : Nat → Int32 := upd (upd f (7 * k + 5) u) (7 * k + 6) d
def plc (f t : Nat → Int32) : Nat → Nat → Nat
  | 0, k => k
  | n + 1, k => if rank f (7 * k) t 0 = 1 then plc f t n (k + 1) else k
def pl (f : Nat → Int32) (z : Nat) (t : Nat → Int32) : Nat := plc f t z 0
theorem plc_ok (f t : Nat → Int32) (z : Nat) : ∀ n k, n + k = z → (∀ i, i < k → rank f (7 * i) t 0 = 1) → isPl f z t (plc f t n k)
  | 0, k, h, q => ⟨by unfold plc; omega, q, fun w => by unfold plc at w; omega⟩
  | n + 1, k, h, q => by
    unfold plc
    split
    · next c =>
      refine plc_ok f t z n (k + 1) (by omega) fun i hi => ?_
      rcases Nat.lt_or_ge i k with w | w
      · exact q i w
      · have : i = k := by omega
        rw [this]; exact c
    · next c => exact ⟨by omega, q, fun _ => c⟩
theorem pl_ok (f : Nat → Int32) (z : Nat) (t : Nat → Int32) : isPl f z t (pl f z t) := plc_ok f t z z 0 (by omega) (fun i h => absurd h (Nat.not_lt_zero i))
/-- the added number's part above and below, before it is brought to lowest terms -/
def nuA (f : Nat → Int32) (k : Nat) (t : Nat → Int32) : Int := (f (7 * k + 5)).toInt * (t 6).toInt + (t 5).toInt * (f (7 * k + 6)).toInt
def nuB (f : Nat → Int32) (k : Nat) (t : Nat → Int32) : Int := (f (7 * k + 6)).toInt * (t 6).toInt
def putO (z : Nat) (f t : Nat → Int32) : Option (Nat × (Nat → Int32)) :=
  if pl f z t < z ∧ rank f (7 * pl f z t) t 0 = 0 then
    if nuA f (pl f z t) t = 0 then some (z - 1, del f (pl f z t))
    else if 1000000 < (redU (nuA f (pl f z t) t) (nuB f (pl f z t) t)).natAbs ∨ 1000000 < redD (nuA f (pl f z t) t) (nuB f (pl f z t) t) then none
    else some (z, set2 f (pl f z t) (Int32.ofInt (redU (nuA f (pl f z t) t) (nuB f (pl f z t) t))) (Int32.ofInt (redD (nuA f (pl f z t) t) (nuB f (pl f z t) t))))
  else some (z + 1, ins f (pl f z t) t)
theorem i_ofInt {n : Int} (h1 : -2 ^ 31 ≤ n) (h2 : n < 2 ^ 31) : (Int32.ofInt n).toInt = n := by rw [Int32.toInt_ofInt, i_bm h1 h2]
theorem i_of_eq {x : Int32} {n : Int} (h : x.toInt = n) : x = Int32.ofInt n := by rw [← h, Int32.ofInt_toInt]
/-- sizes of products of parts -/
theorem mul_bd {a b : Int} {A B : Nat} (h1 : a.natAbs ≤ A) (h2 : b.natAbs ≤ B) : (a * b).natAbs ≤ A * B := by rw [Int.natAbs_mul]; exact Nat.mul_le_mul h1 h2
theorem l_of_i (x : Int32) : x.toInt64.toInt = x.toInt := Int32.toInt_toInt64 x
theorem ll_mul {x y : Int32} (h1 : x.toInt.natAbs ≤ 2147483648) (h2 : y.toInt.natAbs ≤ 2147483648) : (x.toInt64 * y.toInt64).toInt = x.toInt * y.toInt := by
  have := mul_bd h1 h2
  rw [l_mul (by rw [l_of_i, l_of_i]; omega) (by rw [l_of_i, l_of_i]; omega), l_of_i, l_of_i]
theorem i_abs (x : Int32) : x.toInt.natAbs ≤ 2147483648 := by have h1 := Int32.toInt_lt x; have h2 := Int32.le_toInt x; omega
theorem nu_bd {f t : Nat → Int32} {k : Nat} (hf : wfr f (7 * k)) (ht : wfr t 0) : (nuA f k t).natAbs ≤ 2000000000000 ∧ (nuB f k t).natAbs ≤ 1000000000000 ∧ nuB f k t ≠ 0 := by
  obtain ⟨-, h1, h2, h3, h4⟩ := hf
  obtain ⟨-, g1, g2, g3, g4⟩ := ht
  rw [Nat.zero_add] at g1 g2 g3 g4
  have e1 := mul_bd h2 (show (t 6).toInt.natAbs ≤ 1000000 by omega)
  have e2 := mul_bd g2 (show (f (7 * k + 6)).toInt.natAbs ≤ 1000000 by omega)
  have e3 := mul_bd (show (f (7 * k + 6)).toInt.natAbs ≤ 1000000 by omega) (show (t 6).toInt.natAbs ≤ 1000000 by omega)
  refine ⟨?_, ?_, ?_⟩
  · unfold nuA; omega
  · unfold nuB; omega
  · unfold nuB; exact Int.mul_ne_zero (by omega) (by omega)
theorem W_remove_ok {z k : Nat} {rows : Nat → Int32} {post : Int32 → (Nat → Int32) → Prop} (hz : z ≤ 100) (hk : k < z) (h : ∀ rows' : Nat → Int32, eqp (7 * (z - 1)) rows' (del rows k) → post (nI (z - 1)) rows') : wp_W_removeRow (nI z) rows (nI k) post := by
  unfold wp_W_removeRow
  intro x1 e1
  have e1' : x1 = nI (7 * k) := by rw [e1, Nat.mul_comm 7 k]; exact pk_mul k 7
  have e2 : x1 + 7 = nI (7 * k + 7) := by rw [e1']; exact nI_add _ 7
  have e3 : (nI z - nI k - 1) * 7 = nI (7 * (z - k - 1)) := by
    rw [pk_sub (by omega), show nI (z - k) - 1 = nI (z - k - 1) from pk_sub (b := 1) (by omega), Nat.mul_comm 7]; exact pk_mul _ 7
  rw [e2, e3, e1', nI_clamp (by omega), nI_clamp (by omega), nI_clamp (by omega)]
  refine ⟨⟨nI_pos (by omega), nI_pos (by omega), nI_pos (by omega), by omega, by omega⟩, fun r er x4 e4 => ?_⟩
  rw [show x4 = nI (z - 1) from e4.trans (pk_sub (b := 1) (by omega))]
  refine h r fun j hj => ?_
  rw [er]
  unfold del
  by_cases q : j < 7 * k
  · rw [if_pos q, pk_cpy_out (Or.inl q)]
  · rw [if_neg q, pk_cpy_in (by omega) (by omega)]
    congr 1; omega
theorem W_insert_ok {z k : Nat} {tooG : Int32} {rows taken : Nat → Int32} {post : Int32 → Int32 → (Nat → Int32) → Prop} (hz : z < 100) (hk : k ≤ z) (h : ∀ rows' : Nat → Int32, eqp (7 * (z + 1)) rows' (ins rows k taken) → post (nI (z + 1)) tooG rows') : wp_W_insertTaken (nI z) tooG rows taken (nI k) post := by
  unfold wp_W_insertTaken
  have cz : nI z < 100 ↔ z < 100 := by
    have : (100 : Int32) = nI 100 := rfl
    rw [this]; exact nI_ltI (by omega) (by omega)
  rw [cz]
  refine ⟨fun _ x2 e2 => ?_, fun c => absurd hz c⟩
  have e1' : x2 = nI (7 * k) := by rw [e2, Nat.mul_comm 7 k]; exact pk_mul k 7
  have e2' : x2 + 7 = nI (7 * k + 7) := by rw [e1']; exact nI_add _ 7
  have e3 : (nI z - nI k) * 7 = nI (7 * (z - k)) := by rw [pk_sub (by omega), Nat.mul_comm 7]; exact pk_mul _ 7
  have c7 : (7 : Int32).toNatClampNeg = 7 := by decide
  have c0 : (0 : Int32).toNatClampNeg = 0 := by decide
  rw [e2', e3, e1', nI_clamp (by omega), nI_clamp (by omega), nI_clamp (by omega), c7, c0]
  refine ⟨⟨nI_pos (by omega), nI_pos (by omega), nI_pos (by omega), by omega, by omega⟩, fun r4 e4 => ⟨⟨by decide, nI_pos (by omega), by decide, by omega, by omega⟩, fun r6 e6 x7 e7 => ?_⟩⟩
  rw [show x7 = nI (z + 1) from e7.trans (nI_1 z)]
  refine h r6 fun j hj => ?_
  rw [e6]
  unfold ins
  by_cases q : j < 7 * k
  · rw [if_pos q, pk_cpy_out (Or.inl q), e4, pk_cpy_out (Or.inl (by omega))]
  · rw [if_neg q]
    by_cases q2 : j < 7 * k + 7
    · rw [if_pos q2, pk_cpy_in (by omega) (by omega), Nat.zero_add]
    · rw [if_neg q2, pk_cpy_out (Or.inr (by omega)), e4, pk_cpy_in (by omega) (by omega)]
      congr 1; omega
theorem W_put_ok {z : Nat} {tooG : Int32} {rows taken : Nat → Int32} {post : Int32 → Int32 → (Nat → Int32) → Prop} (hz : z < 100) (hw : wfs rows z) (ht : wfr taken 0)
    (k1 : ∀ (z' : Nat) (r0 rows' : Nat → Int32), putO z rows taken = some (z', r0) → eqp (7 * z') rows' r0 → post (nI z') tooG rows') (k2 : putO z rows taken = none → post (nI z) 1 rows) : wp_W_putTaken (nI z) tooG rows taken post := by
  unfold wp_W_putTaken
  refine W_place_ok (by omega) hw.1 fun r hr => ?_
  have er : pl rows z taken = r := isPl_uniq (pl_ok _ _ _) hr
  have cr : nI z ≤ nI r ↔ z ≤ r := nI_leI (by omega) (by have := hr.1; omega)
  have insert : ¬ (r < z ∧ rank rows (7 * r) taken 0 = 0) → wj_W_putTaken_40 (nI z) tooG rows taken (nI r) post := by
    intro c
    unfold wj_W_putTaken_40
    refine W_insert_ok hz hr.1 fun rows' h => k1 _ _ _ ?_ h
    unfold putO
    rw [er, if_neg c]
  rw [cr]
  refine ⟨fun c => insert (by omega), fun c => ?_⟩
  have e7 : nI r * 7 = nI (7 * r) := by rw [Nat.mul_comm 7 r]; exact pk_mul r 7
  rw [e7]
  refine G_rank_rt_ok (b := 0) (by omega) (by omega) ⟨fun q => insert (fun w => q w.2), fun q => ?_⟩
  have hk : r < z := by omega
  obtain ⟨b1, b2, b3⟩ := nu_bd (hw.2 r hk) ht
  unfold wp_W_addTaken
  intro x1 e1
  rw [e7] at e1
  subst e1
  have c6 : (6 : Int32).toNatClampNeg = 6 := by decide
  have c5' : (5 : Int32).toNatClampNeg = 5 := by decide
  have e5 : nI (7 * r) + 5 = nI (7 * r + 5) := nI_add _ 5
  have e6 : nI (7 * r) + 6 = nI (7 * r + 6) := nI_add _ 6
  rw [e5, e6, nI_clamp (by omega), nI_clamp (by omega), c6, c5']
  refine ⟨vp_in_nI (by omega) (by omega), in6_7, in5_7, vp_in_nI (by omega) (by omega), fun x6 ex6 => ?_⟩
  have hx6 : x6.toInt = nuA rows r taken := by
    have m1 := ll_mul (i_abs (rows (7 * r + 5))) (i_abs (taken 6))
    have m2 := ll_mul (i_abs (taken 5)) (i_abs (rows (7 * r + 6)))
    have hA : (rows (7 * r + 5)).toInt * (taken 6).toInt + (taken 5).toInt * (rows (7 * r + 6)).toInt = nuA rows r taken := rfl
    rw [ex6, l_add (by rw [m1, m2]; omega) (by rw [m1, m2]; omega), m1, m2]; rfl
  have hB : ((rows (7 * r + 6)).toInt64 * (taken 6).toInt64).toInt = nuB rows r taken := ll_mul (i_abs _) (i_abs _)
  have cE : lg_cmp x6 0 = 0 ↔ nuA rows r taken = 0 := by
    rw [lg_cmp_eq, ← hx6]
    exact ⟨fun q => by rw [q]; rfl, fun q => Int64.toInt_inj.mp (by rw [q]; rfl)⟩
  rw [cE]
  refine ⟨fun c1 => ⟨vp_in_nI (by omega) (by omega), in6_7, ?_⟩, fun c1 => W_remove_ok (by omega) hk fun rows' h => k1 _ _ _ ?_ h⟩
  · refine W_setNumber_r_ok (by omega) (by rw [hx6]; omega) (by rw [hB]; omega) (by rw [hB]; exact b3) ?_ ?_
    · rw [hx6, hB]
      intro c2
      unfold big2 at c2
      refine k2 ?_
      unfold putO
      rw [er, if_pos ⟨hk, q⟩, if_neg c1, if_pos c2]
    · intro u d hu hd c2
      rw [hx6, hB] at hu hd c2
      unfold big2 at c2
      rw [i_of_eq hu, i_of_eq hd]
      refine k1 z (set2 rows r (Int32.ofInt (redU (nuA rows r taken) (nuB rows r taken))) (Int32.ofInt (redD (nuA rows r taken) (nuB rows r taken)))) _ ?_ (fun _ _ => rfl)
      unfold putO
      rw [er, if_pos ⟨hk, q⟩, if_neg c1, if_neg c2]
  · unfold putO
    rw [er, if_pos ⟨hk, q⟩, if_pos c1]
