/-! RANK: which of two rows stands higher; the loops that tell it; the place of a term, found by halving. -/
def c5 (f t : Nat → Int32) : Nat → Nat → Int32
  | 0, _ => 0
  | n + 1, e => if f e = t e then c5 f t n (e + 1) else if f e ≤ t e then -1 else 1
/-- row at place a of f against row at place b of t -/
def rank (f : Nat → Int32) (a : Nat) (t : Nat → Int32) (b : Nat) : Int32 := c5 (fun e => f (a + e)) (fun e => t (b + e)) 5 0
theorem c5_val (f t : Nat → Int32) : ∀ n e, c5 f t n e = 0 ∨ c5 f t n e = 1 ∨ c5 f t n e = -1
  | 0, _ => Or.inl rfl
  | n + 1, e => by
    unfold c5
    split
    · exact c5_val f t n (e + 1)
    · split
      · exact Or.inr (Or.inr rfl)
      · exact Or.inr (Or.inl rfl)
theorem c5_eq0 (f t : Nat → Int32) : ∀ n e, c5 f t n e = 0 ↔ ∀ j, j < n → f (e + j) = t (e + j)
  | 0, _ => ⟨fun _ j h => absurd h (Nat.not_lt_zero j), fun _ => rfl⟩
  | n + 1, e => by
    unfold c5
    split
    · next h =>
      rw [c5_eq0 f t n (e + 1)]
      constructor
      · intro q j hj
        rcases j with _ | j
        · exact h
        · have := q j (by omega)
          rw [show e + (j + 1) = e + 1 + j by omega]; exact this
      · intro q j hj
        have := q (j + 1) (by omega)
        rw [show e + 1 + j = e + (j + 1) by omega]; exact this
    · next h =>
      constructor
      · intro q; split at q
        · exact absurd q (by decide)
        · exact absurd q (by decide)
      · intro q; exact absurd (q 0 (by omega)) h
theorem c5_anti (f t : Nat → Int32) : ∀ n e, c5 f t n e = -1 ↔ c5 t f n e = 1
  | 0, _ => ⟨fun h => absurd h (show ¬ (0 : Int32) = -1 by decide), fun h => absurd h (show ¬ (0 : Int32) = 1 by decide)⟩
  | n + 1, e => by
    unfold c5
    by_cases h : f e = t e
    · rw [if_pos h, if_pos h.symm]; exact c5_anti f t n (e + 1)
    · have h' : ¬ t e = f e := fun q => h q.symm
      rw [if_neg h, if_neg h']
      by_cases h2 : f e ≤ t e
      · have h3 : ¬ t e ≤ f e := fun q => h (Int32.le_antisymm h2 q)
        rw [if_pos h2, if_neg h3]; exact ⟨fun _ => rfl, fun _ => rfl⟩
      · have h3 : t e ≤ f e := by rw [Int32.le_iff_toInt_le] at h2 ⊢; omega
        rw [if_neg h2, if_pos h3]; decide
theorem c5_trans (f g t : Nat → Int32) : ∀ n e, c5 f g n e = 1 → c5 g t n e = 1 → c5 f t n e = 1
  | 0, _, h, _ => absurd h (show ¬ (0 : Int32) = 1 by decide)
  | n + 1, e, h1, h2 => by
    unfold c5 at h1 h2 ⊢
    by_cases a : f e = g e
    · rw [if_pos a] at h1
      by_cases b : g e = t e
      · rw [if_pos b] at h2
        rw [if_pos (a.trans b)]; exact c5_trans f g t n (e + 1) h1 h2
      · rw [if_neg b] at h2
        rw [a, if_neg b]; exact h2
    · rw [if_neg a] at h1
      have a2 : ¬ f e ≤ g e := fun q => by rw [if_pos q] at h1; exact absurd h1 (by decide)
      rw [Int32.le_iff_toInt_le] at a2
      by_cases b : g e = t e
      · rw [if_neg (fun q => a (q.trans b.symm)), if_neg (by rw [← b, Int32.le_iff_toInt_le]; omega)]
      · rw [if_neg b] at h2
        have b2 : ¬ g e ≤ t e := fun q => by rw [if_pos q] at h2; exact absurd h2 (by decide)
        rw [Int32.le_iff_toInt_le] at b2
        rw [if_neg (fun q => by rw [q] at a2; omega), if_neg (by rw [Int32.le_iff_toInt_le]; omega)]
theorem c5_congr {f t f' t' : Nat → Int32} : ∀ n e, (∀ j, j < n → f (e + j) = f' (e + j)) → (∀ j, j < n → t (e + j) = t' (e + j)) → c5 f t n e = c5 f' t' n e
  | 0, _, _, _ => rfl
  | n + 1, e, h1, h2 => by
    unfold c5
    have a : f e = f' e := h1 0 (by omega)
    have b : t e = t' e := h2 0 (by omega)
    have c := c5_congr (f := f) (t := t) (f' := f') (t' := t') n (e + 1) (fun j hj => by have := h1 (j + 1) (by omega); rw [show e + 1 + j = e + (j + 1) by omega]; exact this) (fun j hj => by have := h2 (j + 1) (by omega); rw [show e + 1 + j = e + (j + 1) by omega]; exact this)
    rw [a, b, c]
theorem rank_val (f : Nat → Int32) (a : Nat) (t : Nat → Int32) (b : Nat) : rank f a t b = 0 ∨ rank f a t b = 1 ∨ rank f a t b = -1 := c5_val _ _ 5 0
theorem rank_eq0 {f : Nat → Int32} {a : Nat} {t : Nat → Int32} {b : Nat} : rank f a t b = 0 ↔ ∀ j, j < 5 → f (a + j) = t (b + j) := by
  unfold rank; rw [c5_eq0]
  constructor
  · intro h j hj; have := h j hj; rwa [Nat.zero_add] at this
  · intro h j hj; rw [Nat.zero_add]; exact h j hj
theorem rank_anti {f : Nat → Int32} {a : Nat} {t : Nat → Int32} {b : Nat} : rank f a t b = -1 ↔ rank t b f a = 1 := c5_anti _ _ 5 0
theorem rank_trans {f g t : Nat → Int32} {a b c : Nat} (h1 : rank f a g b = 1) (h2 : rank g b t c = 1) : rank f a t c = 1 := c5_trans _ _ _ 5 0 h1 h2
theorem rank_congr {f t f' t' : Nat → Int32} {a b a' b' : Nat} (h1 : ∀ j, j < 5 → f (a + j) = f' (a' + j)) (h2 : ∀ j, j < 5 → t (b + j) = t' (b' + j)) : rank f a t b = rank f' a' t' b' :=
  c5_congr 5 0 (fun j hj => by simpa using h1 j hj) (fun j hj => by simpa using h2 j hj)
theorem rank_le0 {f : Nat → Int32} {a : Nat} {t : Nat → Int32} {b : Nat} : rank f a t b ≤ 0 ↔ rank f a t b ≠ 1 := by
  rcases rank_val f a t b with h | h | h <;> rw [h] <;> decide
/-- one round of a loop that compares, in numbers -/
theorem five_le {e : Nat} (h : e ≤ 5) : (5 : Int32) ≤ nI e ↔ 5 ≤ e := by
  have : (5 : Int32) = nI 5 := rfl
  rw [this]; exact nI_leI (by omega) (by omega)
theorem G_rank_rt_ok {rows taken : Nat → Int32} {a b : Nat} {post : Int32 → Prop} (ha : a + 5 ≤ 700) (hb : b + 5 ≤ 7) (k : post (rank rows a taken b)) : wp_G_rankOfTerms_rt rows taken (nI a) (nI b) post := by
  unfold wp_G_rankOfTerms_rt
  refine lpW1_ex _ (fun i => ∃ e : Nat, i = nI e ∧ e ≤ 5 ∧ c5 (fun e => rows (a + e)) (fun e => taken (b + e)) (5 - e) e = rank rows a taken b) (fun i => 5 - i.toNatClampNeg) ?_ _ ⟨0, nI_0.symm, by omega, rfl⟩
  rintro ih i ⟨e, rfl, he, hc⟩ hs
  unfold wb_G_rankOfTerms_rt_3
  rw [five_le he]
  constructor
  · intro c
    have : e = 5 := by omega
    subst this
    rw [show c5 (fun e => rows (a + e)) (fun e => taken (b + e)) (5 - 5) 5 = 0 from rfl] at hc
    rw [← hc] at k; exact k
  · intro c
    obtain ⟨m, hm⟩ : ∃ m, 5 - e = m + 1 := ⟨5 - e - 1, by omega⟩
    have hm2 : m = 5 - (e + 1) := by omega
    rw [hm] at hc
    unfold c5 at hc
    rw [nI_add, nI_add, nI_clamp (by omega), nI_clamp (by omega)]
    refine ⟨vp_in_nI (by omega) (by omega), vp_in_nI (by omega) (by omega), ?_, ?_⟩
    · intro q x ex
      rw [if_pos q] at hc
      rw [nI_1] at ex
      refine hs _ ⟨e + 1, ex, by omega, by rw [← hm2]; exact hc⟩ ?_
      show 5 - x.toNatClampNeg < 5 - (nI e).toNatClampNeg
      rw [ex, nI_clamp (by omega), nI_clamp (by omega)]; omega
    · intro q
      rw [if_neg q] at hc
      refine ⟨vp_in_nI (by omega) (by omega), vp_in_nI (by omega) (by omega), ?_, ?_⟩
      · intro z; rw [if_pos z] at hc; rw [hc]; exact k
      · intro z; rw [if_neg z] at hc; rw [hc]; exact k
theorem G_rank_kk_ok {kept : Nat → Int32} {a b : Nat} {post : Int32 → Prop} (ha : a + 5 ≤ 5600) (hb : b + 5 ≤ 5600) (k : post (rank kept a kept b)) : wp_G_rankOfTerms_kk kept (nI a) (nI b) post := by
  unfold wp_G_rankOfTerms_kk
  refine lpW1_ex _ (fun i => ∃ e : Nat, i = nI e ∧ e ≤ 5 ∧ c5 (fun e => kept (a + e)) (fun e => kept (b + e)) (5 - e) e = rank kept a kept b) (fun i => 5 - i.toNatClampNeg) ?_ _ ⟨0, nI_0.symm, by omega, rfl⟩
  rintro ih i ⟨e, rfl, he, hc⟩ hs
  unfold wb_G_rankOfTerms_kk_3
  rw [five_le he]
  constructor
  · intro c
    have : e = 5 := by omega
    subst this
    rw [show c5 (fun e => kept (a + e)) (fun e => kept (b + e)) (5 - 5) 5 = 0 from rfl] at hc
    rw [← hc] at k; exact k
  · intro c
    obtain ⟨m, hm⟩ : ∃ m, 5 - e = m + 1 := ⟨5 - e - 1, by omega⟩
    have hm2 : m = 5 - (e + 1) := by omega
    rw [hm] at hc
    unfold c5 at hc
    rw [nI_add, nI_add, nI_clamp (by omega), nI_clamp (by omega)]
    refine ⟨vp_in_nI (by omega) (by omega), vp_in_nI (by omega) (by omega), ?_, ?_⟩
    · intro q x ex
      rw [if_pos q] at hc
      rw [nI_1] at ex
      refine hs _ ⟨e + 1, ex, by omega, by rw [← hm2]; exact hc⟩ ?_
      show 5 - x.toNatClampNeg < 5 - (nI e).toNatClampNeg
      rw [ex, nI_clamp (by omega), nI_clamp (by omega)]; omega
    · intro q
      rw [if_neg q] at hc
      refine ⟨vp_in_nI (by omega) (by omega), vp_in_nI (by omega) (by omega), ?_, ?_⟩
      · intro z; rw [if_pos z] at hc; rw [hc]; exact k
      · intro z; rw [if_neg z] at hc; rw [hc]; exact k
theorem M_order_ok {work xx : Nat → Int32} {r : Nat} {post : Int32 → Prop} (ha : 7 * r + 5 ≤ 840) (k : post (rank work (7 * r) xx 0)) : wp_M_order work xx (nI r) post := by
  unfold wp_M_order
  refine lpW1_ex _ (fun i => ∃ e : Nat, i = nI e ∧ e ≤ 5 ∧ c5 (fun e => work (7 * r + e)) (fun e => xx (0 + e)) (5 - e) e = rank work (7 * r) xx 0) (fun i => 5 - i.toNatClampNeg) ?_ _ ⟨0, nI_0.symm, by omega, rfl⟩
  rintro ih i ⟨e, rfl, he, hc⟩ hs
  unfold wb_M_order_2
  rw [five_le he]
  constructor
  · intro c
    have : e = 5 := by omega
    subst this
    rw [show c5 (fun e => work (7 * r + e)) (fun e => xx (0 + e)) (5 - 5) 5 = 0 from rfl] at hc
    rw [← hc] at k; exact k
  · intro c
    obtain ⟨m, hm⟩ : ∃ m, 5 - e = m + 1 := ⟨5 - e - 1, by omega⟩
    have hm2 : m = 5 - (e + 1) := by omega
    rw [hm] at hc
    unfold c5 at hc
    rw [Nat.zero_add] at hc
    have e7 : 7 * nI r + nI e = nI (7 * r + e) := by rw [show (7 : Int32) * nI r = nI (7 * r) from pk_mul 7 r, nI_add]
    rw [e7, nI_clamp (by omega), nI_clamp (by omega)]
    refine ⟨vp_in_nI (by omega) (by omega), vp_in_nI (by omega) (by omega), ?_, ?_⟩
    · intro q x ex
      rw [if_pos q] at hc
      rw [nI_1] at ex
      refine hs _ ⟨e + 1, ex, by omega, by rw [← hm2]; exact hc⟩ ?_
      show 5 - x.toNatClampNeg < 5 - (nI e).toNatClampNeg
      rw [ex, nI_clamp (by omega), nI_clamp (by omega)]; omega
    · intro q
      rw [if_neg q] at hc
      refine ⟨vp_in_nI (by omega) (by omega), vp_in_nI (by omega) (by omega), ?_, ?_⟩
      · intro z; rw [if_pos z] at hc; rw [hc]; exact k
      · intro z; rw [if_neg z] at hc; rw [hc]; exact k
/-- rows are strictly falling -/
def srt (f : Nat → Int32) (z : Nat) : Prop := ∀ i j, i < j → j < z → rank f (7 * i) f (7 * j) = 1
/-- the first row that isn't above the term t -/
def isPl (f : Nat → Int32) (z : Nat) (t : Nat → Int32) (k : Nat) : Prop := k ≤ z ∧ (∀ i, i < k → rank f (7 * i) t 0 = 1) ∧ (k < z → rank f (7 * k) t 0 ≠ 1)
theorem isPl_uniq {f : Nat → Int32} {z : Nat} {t : Nat → Int32} {k k' : Nat} (h : isPl f z t k) (h' : isPl f z t k') : k = k' := by
  rcases Nat.lt_trichotomy k k' with q | q | q
  · exact absurd (h'.2.1 k q) (h.2.2 (Nat.lt_of_lt_of_le q h'.1))
  · exact q
  · exact absurd (h.2.1 k' q) (h'.2.2 (Nat.lt_of_lt_of_le q h.1))
theorem W_place_ok {z : Nat} {rows taken : Nat → Int32} {post : Int32 → Prop} (hz : z ≤ 100) (hs : srt rows z) (k : ∀ r, isPl rows z taken r → post (nI r)) : wp_W_placeOfTaken (nI z) rows taken post := by
  unfold wp_W_placeOfTaken
  refine lpW3_ex _ (fun x y i => ∃ lo hi j : Nat, x = nI lo ∧ y = nI hi ∧ i = nI j ∧ lo ≤ hi ∧ hi ≤ z ∧ hi - lo + j ≤ 100 ∧ (∀ i, i < lo → rank rows (7 * i) taken 0 = 1) ∧ (∀ i, hi ≤ i → i < z → rank rows (7 * i) taken 0 ≠ 1)) (fun _ _ i => 100 - i.toNatClampNeg) ?_ _ _ _ ⟨0, z, 0, nI_0.symm, rfl, nI_0.symm, by omega, by omega, by omega, fun i h => absurd h (Nat.not_lt_zero i), fun i h1 h2 => absurd h1 (by omega)⟩
  rintro ih x y i ⟨lo, hi, j, rfl, rfl, rfl, h1, h2, h3, h4, h5⟩ hn
  unfold wb_W_placeOfTaken_9
  have cj : (100 : Int32) ≤ nI j ↔ 100 ≤ j := by
    have : (100 : Int32) = nI 100 := rfl
    rw [this]; exact nI_leI (by omega) (by omega)
  have ch : nI hi ≤ nI lo ↔ hi ≤ lo := nI_leI (by omega) (by omega)
  have fin : hi = lo → post (nI lo) := fun q => k lo ⟨by omega, h4, fun w => h5 lo (by omega) w⟩
  rw [cj, ch]
  refine ⟨fun c => fin (by omega), fun c => ⟨fun c2 => fin (by omega), fun c2 x6 e6 => ?_⟩⟩
  rw [nI_add, pk_ushrN (by omega) 1 1 (by decide)] at e6
  obtain ⟨mid, hmid⟩ : ∃ mid, mid = (lo + hi) / 2 ^ 1 := ⟨_, rfl⟩
  rw [← hmid] at e6
  have hm1 : lo ≤ mid := by omega
  have hm2 : mid < hi := by omega
  have e7 : x6 * 7 = nI (7 * mid) := by rw [e6, Nat.mul_comm 7 mid]; exact pk_mul mid 7
  rw [e7]
  refine G_rank_rt_ok (b := 0) (by omega) (by omega) ?_
  rw [rank_le0]
  refine ⟨fun q x10 e10 => ?_, fun q x11 e11 x12 e12 => ?_⟩
  · rw [nI_1] at e10
    refine hn _ _ _ ⟨lo, mid, j + 1, rfl, e6, e10, hm1, by omega, by omega, h4, fun i w1 w2 => ?_⟩ ?_
    · rcases Nat.lt_or_ge mid i with w | w
      · intro v; exact q (rank_trans (hs mid i w w2) v)
      · have : i = mid := by omega
        rw [this]; exact q
    · show 100 - x10.toNatClampNeg < 100 - (nI j).toNatClampNeg
      rw [e10, nI_clamp (by omega), nI_clamp (by omega)]; omega
  · rw [nI_1] at e12
    rw [e6, nI_1] at e11
    have q1 : rank rows (7 * mid) taken 0 = 1 := Classical.byContradiction q
    refine hn _ _ _ ⟨mid + 1, hi, j + 1, e11, rfl, e12, by omega, by omega, by omega, fun i w => ?_, h5⟩ ?_
    · rcases Nat.lt_or_ge i mid with w2 | w2
      · exact rank_trans (hs i mid w2 (by omega)) q1
      · have : i = mid := by omega
        rw [this]; exact q1
    · show 100 - x12.toNatClampNeg < 100 - (nI j).toNatClampNeg
      rw [e12, nI_clamp (by omega), nI_clamp (by omega)]; omega
