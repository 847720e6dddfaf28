/-! SUMS ON THE WAY: put keeps rows in order; states of both sides against one sum. -/
theorem eqp_sym {n : Nat} {f g : Nat → Int32} (h : eqp n f g) : eqp n g f := fun j hj => (h j hj).symm
theorem eqp_trans {n : Nat} {f g k : Nat → Int32} (h : eqp n f g) (h2 : eqp n g k) : eqp n f k := fun j hj => (h j hj).trans (h2 j hj)
theorem wfr_congr {f g : Nat → Int32} {a b : Nat} (h : ∀ j, j < 7 → f (a + j) = g (b + j)) (hw : wfr f a) : wfr g b := by
  obtain ⟨h1, h2, h3, h4, h5⟩ := hw
  rw [h 5 (by omega)] at h2 h3
  rw [h 6 (by omega)] at h4 h5
  exact ⟨fun j hj => by rw [← h j (by omega)]; exact h1 j hj, h2, h3, h4, h5⟩
theorem wfs_congr {f g : Nat → Int32} {z : Nat} (h : eqp (7 * z) f g) (hw : wfs f z) : wfs g z := by
  refine ⟨fun i j hij hj => ?_, fun i hi => wfr_congr (fun j hj => h _ (by omega)) (hw.2 i hi)⟩
  rw [← hw.1 i j hij hj]
  exact rank_congr (fun e he => (h _ (by omega)).symm) (fun e he => (h _ (by omega)).symm)
theorem pl_congr {z : Nat} {f f' t t' : Nat → Int32} (h : eqp (7 * z) f f') (ht : eqp 7 t t') : pl f z t = pl f' z t' := by
  refine isPl_uniq (pl_ok f z t) ?_
  have hr : ∀ i, i < z → rank f (7 * i) t 0 = rank f' (7 * i) t' 0 := fun i hi => rank_congr (fun e he => h _ (by omega)) (fun e he => ht _ (by omega))
  obtain ⟨h1, h2, h3⟩ := pl_ok f' z t'
  exact ⟨h1, fun i hi => by rw [hr i (by omega)]; exact h2 i hi, fun hk => by rw [hr _ hk]; exact h3 hk⟩
theorem putO_congr {z : Nat} {f f' t t' : Nat → Int32} (h : eqp (7 * z) f f') (ht : eqp 7 t t') :
    (putO z f t = none ∧ putO z f' t' = none) ∨ ∃ (z' : Nat) (r r' : Nat → Int32), putO z f t = some (z', r) ∧ putO z f' t' = some (z', r') ∧ eqp (7 * z') r r' := by
  have e := pl_congr h ht
  obtain ⟨k, hk⟩ : ∃ k, k = pl f z t := ⟨_, rfl⟩
  have hkz : k ≤ z := by rw [hk]; exact (pl_ok f z t).1
  unfold putO
  rw [← e, ← hk]
  by_cases c : k < z ∧ rank f (7 * k) t 0 = 0
  · have c' : k < z ∧ rank f' (7 * k) t' 0 = 0 := ⟨c.1, by rw [← c.2]; exact rank_congr (fun e he => (h _ (by omega)).symm) (fun e he => (ht _ (by omega)).symm)⟩
    have eA : nuA f' k t' = nuA f k t := by unfold nuA; rw [h (7 * k + 5) (by omega), h (7 * k + 6) (by omega), ht 5 (by omega), ht 6 (by omega)]
    have eB : nuB f' k t' = nuB f k t := by unfold nuB; rw [h (7 * k + 6) (by omega), ht 6 (by omega)]
    rw [if_pos c, if_pos c', eA, eB]
    by_cases c1 : nuA f k t = 0
    · rw [if_pos c1, if_pos c1]
      refine Or.inr ⟨_, _, _, rfl, rfl, fun j hj => ?_⟩
      unfold del
      split
      · exact h _ (by omega)
      · exact h _ (by omega)
    · rw [if_neg c1, if_neg c1]
      by_cases c2 : 1000000 < (redU (nuA f k t) (nuB f k t)).natAbs ∨ 1000000 < redD (nuA f k t) (nuB f k t)
      · rw [if_pos c2, if_pos c2]; exact Or.inl ⟨rfl, rfl⟩
      · rw [if_neg c2, if_neg c2]
        refine Or.inr ⟨_, _, _, rfl, rfl, fun j hj => ?_⟩
        unfold set2 upd
        split
        · rfl
        · split
          · rfl
          · exact h _ hj
  · have c' : ¬ (k < z ∧ rank f' (7 * k) t' 0 = 0) := fun w => c ⟨w.1, by rw [← w.2]; exact rank_congr (fun e he => h _ (by omega)) (fun e he => ht _ (by omega))⟩
    rw [if_neg c, if_neg c']
    refine Or.inr ⟨_, _, _, rfl, rfl, fun j hj => ?_⟩
    unfold ins
    split
    · exact h _ (by omega)
    · split
      · exact ht _ (by omega)
      · exact h _ (by omega)
theorem del_row {f : Nat → Int32} {k i j : Nat} (hj : j < 7) : del f k (7 * i + j) = if i < k then f (7 * i + j) else f (7 * (i + 1) + j) := by
  unfold del
  by_cases c : i < k
  · rw [if_pos c, if_pos (by omega)]
  · rw [if_neg c, if_neg (by omega)]; congr 1; omega
theorem ins_row {f t : Nat → Int32} {k i j : Nat} (hj : j < 7) : ins f k t (7 * i + j) = if i < k then f (7 * i + j) else if i = k then t j else f (7 * (i - 1) + j) := by
  unfold ins
  by_cases c : i < k
  · rw [if_pos c, if_pos (by omega)]
  · rw [if_neg c, if_neg (by omega)]
    by_cases c2 : i = k
    · rw [if_pos c2, if_pos (by omega)]; congr 1; omega
    · rw [if_neg c2, if_neg (by omega)]; congr 1; omega
theorem del_wf {f : Nat → Int32} {z k : Nat} (hk : k < z) (hw : wfs f z) : wfs (del f k) (z - 1) := by
  have sh : ∀ i, i < z - 1 → ∃ i', i' < z ∧ (i' = if i < k then i else i + 1) ∧ ∀ j, j < 7 → del f k (7 * i + j) = f (7 * i' + j) := fun i hi => by
    by_cases c : i < k
    · exact ⟨i, by omega, by rw [if_pos c], fun j hj => by rw [del_row hj, if_pos c]⟩
    · exact ⟨i + 1, by omega, by rw [if_neg c], fun j hj => by rw [del_row hj, if_neg c]⟩
  refine ⟨fun i j hij hj => ?_, fun i hi => ?_⟩
  · obtain ⟨i', a1, a2, a3⟩ := sh i (by omega)
    obtain ⟨j', b1, b2, b3⟩ := sh j hj
    rw [← hw.1 i' j' (by rw [a2, b2]; split <;> split <;> omega) b1]
    exact rank_congr (fun e he => a3 e (by omega)) (fun e he => b3 e (by omega))
  · obtain ⟨i', a1, -, a3⟩ := sh i hi
    exact wfr_congr (fun j hj => (a3 j hj).symm) (hw.2 i' a1)
theorem ins_wf {f t : Nat → Int32} {z k : Nat} (hr : isPl f z t k) (hc : ¬ (k < z ∧ rank f (7 * k) t 0 = 0)) (hw : wfs f z) (ht : wfr t 0) : wfs (ins f k t) (z + 1) := by
  obtain ⟨h1, h2, h3⟩ := hr
  have below : ∀ i, k ≤ i → i < z → rank t 0 f (7 * i) = 1 := fun i a b => by
    have hk : rank t 0 f (7 * k) = 1 := by
      rw [← rank_anti]
      rcases rank_val f (7 * k) t 0 with q | q | q
      · exact absurd ⟨by omega, q⟩ hc
      · exact absurd q (h3 (by omega))
      · exact q
    rcases Nat.lt_or_ge k i with w | w
    · exact rank_trans hk (hw.1 k i w b)
    · have : i = k := by omega
      rw [this]; exact hk
  have lo : ∀ i, i < k → ∀ j, j < 7 → ins f k t (7 * i + j) = f (7 * i + j) := fun i hi j hj => by rw [ins_row hj, if_pos hi]
  have mi : ∀ j, j < 7 → ins f k t (7 * k + j) = t (0 + j) := fun j hj => by rw [ins_row hj, if_neg (by omega), if_pos rfl, Nat.zero_add]
  have hi : ∀ i, k < i → ∀ j, j < 7 → ins f k t (7 * i + j) = f (7 * (i - 1) + j) := fun i h j hj => by rw [ins_row hj, if_neg (by omega), if_neg (by omega)]
  refine ⟨fun i j hij hj => ?_, fun i h => ?_⟩
  · rcases Nat.lt_trichotomy i k with a | a | a
    · rcases Nat.lt_trichotomy j k with b | b | b
      · rw [← hw.1 i j hij (by omega)]; exact rank_congr (fun e he => lo i a e (by omega)) (fun e he => lo j b e (by omega))
      · subst b; rw [← h2 i a]; exact rank_congr (fun e he => lo i a e (by omega)) (fun e he => mi e (by omega))
      · rw [← hw.1 i (j - 1) (by omega) (by omega)]; exact rank_congr (fun e he => lo i a e (by omega)) (fun e he => hi j b e (by omega))
    · subst a; rw [← below (j - 1) (by omega) (by omega)]; exact rank_congr (fun e he => mi e (by omega)) (fun e he => hi j hij e (by omega))
    · rw [← hw.1 (i - 1) (j - 1) (by omega) (by omega)]; exact rank_congr (fun e he => hi i a e (by omega)) (fun e he => hi j (by omega) e (by omega))
  · rcases Nat.lt_trichotomy i k with a | a | a
    · exact wfr_congr (fun j hj => (lo i a j hj).symm) (hw.2 i (by omega))
    · subst a; exact wfr_congr (fun j hj => (mi j hj).symm) ht
    · exact wfr_congr (fun j hj => (hi i a j hj).symm) (hw.2 (i - 1) (by omega))
theorem set2_out {f : Nat → Int32} {k : Nat} {u d : Int32} {j : Nat} (h1 : j ≠ 7 * k + 5) (h2 : j ≠ 7 * k + 6) : set2 f k u d j = f j := by unfold set2; rw [pk_un h2, pk_un h1]
theorem set2_wf {f : Nat → Int32} {z k : Nat} {u d : Int32} (hw : wfs f z) (h1 : u.toInt ≠ 0) (h2 : u.toInt.natAbs ≤ 1000000) (h3 : 1 ≤ d.toInt) (h4 : d.toInt ≤ 1000000) : wfs (set2 f k u d) z := by
  refine ⟨fun i j hij hj => ?_, fun i hi => ?_⟩
  · rw [← hw.1 i j hij hj]; exact rank_congr (fun e he => set2_out (by omega) (by omega)) (fun e he => set2_out (by omega) (by omega))
  · by_cases c : i = k
    · subst c
      have e5 : set2 f i u d (7 * i + 5) = u := by unfold set2; rw [pk_un (by omega), pk_us]
      have e6 : set2 f i u d (7 * i + 6) = d := by unfold set2; rw [pk_us]
      exact ⟨fun j hj => by rw [set2_out (by omega) (by omega)]; exact (hw.2 i hi).1 j hj, by rw [e5]; exact h1, by rw [e5]; exact h2, by rw [e6]; exact h3, by rw [e6]; exact h4⟩
    · exact wfr_congr (fun j hj => (set2_out (by omega) (by omega)).symm) (hw.2 i hi)
theorem putO_wf {z : Nat} {f t : Nat → Int32} {z' : Nat} {r : Nat → Int32} (hw : wfs f z) (ht : wfr t 0) (h : putO z f t = some (z', r)) : wfs r z' ∧ z' ≤ z + 1 := by
  have hp := pl_ok f z t
  unfold putO at h
  by_cases c : pl f z t < z ∧ rank f (7 * pl f z t) t 0 = 0
  · rw [if_pos c] at h
    by_cases c1 : nuA f (pl f z t) t = 0
    · rw [if_pos c1] at h; cases h; exact ⟨del_wf c.1 hw, by omega⟩
    · rw [if_neg c1] at h
      split at h
      · cases h
      · next c2 =>
        cases h
        have b3 := (nu_bd (hw.2 _ c.1) ht).2.2
        have p := redD_pos (a := nuA f (pl f z t) t) b3
        have q := redU_ne (b := nuB f (pl f z t) t) c1
        exact ⟨set2_wf hw (by rw [i_ofInt (by omega) (by omega)]; exact q) (by rw [i_ofInt (by omega) (by omega)]; omega) (by rw [i_ofInt (by omega) (by omega)]; exact p) (by rw [i_ofInt (by omega) (by omega)]; omega), by omega⟩
  · rw [if_neg c] at h; cases h; exact ⟨ins_wf hp c hw ht, by omega⟩
/-- a sum on the way, none if it is TOO GREAT -/
abbrev Sst := Option (Nat × (Nat → Int32))
def putS (s : Sst) (t : Option (Nat → Int32)) : Sst := match s, t with
  | some q, some t => putO q.1 q.2 t
  | _, _ => none
/-- the class's side, behind at most c puts -/
def RC (s : Sst) (c : Nat) (size tooG : Int32) (rows : Nat → Int32) : Prop := ∃ z : Nat, size = nI z ∧ z ≤ c ∧ wfs rows z ∧ ((s = none ∧ tooG = 1) ∨ ∃ f, s = some (z, f) ∧ tooG = 0 ∧ eqp (7 * z) rows f)
/-- the reference's side -/
def RM (s : Sst) (c : Nat) (made great : Int32) (work : Nat → Int32) : Prop := (s = none ∧ great = 1) ∨ ∃ (z : Nat) (f : Nat → Int32), s = some (z, f) ∧ z ≤ c ∧ wfs f z ∧ made = nI z ∧ great = 0 ∧ eqp (7 * z) work f
theorem RC_put {s : Sst} {c : Nat} {size tg0 tg1 : Int32} {rows taken : Nat → Int32} {o : Option (Nat → Int32)} {post : Int32 → Int32 → (Nat → Int32) → Prop} (h : RC s c size tg0 rows) (hc : c < 100) (hw : wfr taken 0)
    (ho : (o = none ∧ tg1 = 1) ∨ ∃ t, o = some t ∧ tg1 = tg0 ∧ eqp 7 taken t) (k : ∀ size' tg' rows', RC (putS s o) (c + 1) size' tg' rows' → post size' tg' rows') : wp_W_putTaken size tg1 rows taken post := by
  obtain ⟨z, rfl, hz, hs, hst⟩ := h
  refine W_put_ok (by omega) hs hw (fun z' r0 rows' e1 e2 => k _ _ _ ?_) (fun e1 => k _ _ _ ?_)
  · obtain ⟨w1, w2⟩ := putO_wf hs hw e1
    refine ⟨z', rfl, by omega, wfs_congr (eqp_sym e2) w1, ?_⟩
    rcases hst with ⟨q1, q2⟩ | ⟨f, q1, q2, q3⟩
    · left
      refine ⟨by rw [q1]; rfl, ?_⟩
      rcases ho with ⟨-, a⟩ | ⟨_, -, a, -⟩
      · exact a
      · rw [a, q2]
    · rcases ho with ⟨a, b⟩ | ⟨t, a, b, d⟩
      · left; exact ⟨by rw [q1, a]; rfl, b⟩
      · right
        rcases putO_congr q3 d with ⟨n1, -⟩ | ⟨z2, r, r', n1, n2, n3⟩
        · rw [n1] at e1; cases e1
        · rw [n1] at e1; cases e1
          exact ⟨r', by rw [q1, a]; exact n2, by rw [b, q2], eqp_trans e2 n3⟩
  · refine ⟨z, rfl, by omega, hs, Or.inl ⟨?_, rfl⟩⟩
    rcases hst with ⟨q1, q2⟩ | ⟨f, q1, q2, q3⟩
    · rw [q1]; rfl
    · rcases ho with ⟨a, b⟩ | ⟨t, a, b, d⟩
      · rw [q1, a]; rfl
      · rcases putO_congr q3 d with ⟨-, n1⟩ | ⟨z2, r, r', n1, n2, n3⟩
        · rw [q1, a]; exact n1
        · rw [n1] at e1; cases e1
theorem RM_put {s : Sst} {c : Nat} {made gr0 gr1 : Int32} {up down : Int64} {work xx : Nat → Int32} {o : Option (Nat → Int32)} {post : Int32 → Int32 → Int64 → Int64 → (Nat → Int32) → Prop} (h : RM s c made gr0 work) (hc : c < 100)
    (ho : (o = none ∧ (gr1 = 1 ∨ (gr1 = gr0 ∧ ∃ j, j < 5 ∧ ¬ wfe (xx j)))) ∨ ∃ t, o = some t ∧ gr1 = gr0 ∧ wfr t 0 ∧ eqp 7 xx t) (k : ∀ made' gr' up' down' work', RM (putS s o) (c + 1) made' gr' work' → post made' gr' up' down' work') : wp_M_put made gr1 up down work xx post := by
  have g0 : gr0 = 0 ∨ gr0 = 1 := by
    rcases h with ⟨-, q⟩ | ⟨_, _, -, -, -, -, q, -⟩
    · exact Or.inr q
    · exact Or.inl q
  have g1 : gr1 = 0 ∨ gr1 = 1 := by
    rcases ho with ⟨-, q | ⟨q, -⟩⟩ | ⟨_, -, q, -⟩
    · exact Or.inr q
    · rw [q]; exact g0
    · rw [q]; exact g0
  have key : gr1 = 0 → (∀ j, j < 5 → wfe (xx j)) → ∃ (z : Nat) (f t : Nat → Int32), s = some (z, f) ∧ z ≤ c ∧ wfs f z ∧ made = nI z ∧ eqp (7 * z) work f ∧ o = some t ∧ wfr t 0 ∧ eqp 7 xx t := by
    intro a b
    rcases ho with ⟨-, q | ⟨-, j, j1, j2⟩⟩ | ⟨t, q1, q2, q3, q4⟩
    · rw [q] at a; exact absurd a (by decide)
    · exact absurd (b j j1) j2
    · rcases h with ⟨-, q⟩ | ⟨z, f, w1, w2, w3, w4, w5, w6⟩
      · rw [q2, q] at a; exact absurd a (by decide)
      · exact ⟨z, f, t, w1, w2, w3, w4, w6, q1, q3, q4⟩
  by_cases hh : gr1 = 0 ∧ ∀ j, j < 5 → wfe (xx j)
  · obtain ⟨z, f, t, w1, w2, w3, w4, w6, w7, w8, w9⟩ := key hh.1 hh.2
    refine M_put_ok (z := z) g1 (fun q => ?_) (fun _ _ => ⟨w4, by omega, wfs_congr (eqp_sym w6) w3, wfr_congr (fun j hj => by rw [Nat.zero_add]; exact (w9 j hj).symm) w8⟩) (fun _ _ z' r0 work' up' down' e1 e2 => k _ _ _ _ _ ?_) (fun _ _ e1 up' down' => k _ _ _ _ _ ?_)
    · rcases q with q | ⟨j, j1, j2⟩
      · rw [hh.1] at q; exact absurd q (by decide)
      · exact absurd (hh.2 j j1) j2
    · rcases putO_congr w6 w9 with ⟨n1, -⟩ | ⟨z2, r, r', n1, n2, n3⟩
      · rw [n1] at e1; cases e1
      · rw [n1] at e1; cases e1
        obtain ⟨v1, v2⟩ := putO_wf w3 w8 n2
        exact Or.inr ⟨z', r', by rw [w1, w7]; exact n2, by omega, v1, rfl, rfl, eqp_trans e2 n3⟩
    · rcases putO_congr w6 w9 with ⟨-, n1⟩ | ⟨z2, r, r', n1, n2, n3⟩
      · exact Or.inl ⟨by rw [w1, w7]; exact n1, rfl⟩
      · rw [n1] at e1; cases e1
  · refine M_put_ok (z := 0) g1 (fun q => k _ _ _ _ _ (Or.inl ⟨?_, rfl⟩)) (fun a b => absurd ⟨a, b⟩ hh) (fun a b => absurd ⟨a, b⟩ hh) (fun a b => absurd ⟨a, b⟩ hh)
    rcases ho with ⟨a, -⟩ | ⟨t, a, b, d, e⟩
    · rw [a]; cases s <;> rfl
    · rcases q with q | ⟨j, j1, j2⟩
      · rw [b] at q
        rcases h with ⟨w, -⟩ | ⟨_, _, -, -, -, -, w, -⟩
        · rw [w]; rfl
        · rw [w] at q; exact absurd q (by decide)
      · exact absurd (by rw [e j (by omega)]; have := d.1 j j1; rwa [Nat.zero_add] at this) j2
