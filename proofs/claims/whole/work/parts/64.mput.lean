/-! PUT, the reference's way. -/
theorem M_in_ok {v lo hi : Int64} {post : Int32 → Prop} (k1 : lo.toInt ≤ v.toInt → v.toInt ≤ hi.toInt → post 1) (k0 : ¬ (lo.toInt ≤ v.toInt ∧ v.toInt ≤ hi.toInt) → post 0) : wp_M_in v lo hi post := by
  unfold wp_M_in
  rw [lg_cmp_lt, lg_cmp_gt, Int64.lt_iff_toInt_lt, Int64.lt_iff_toInt_lt]
  exact ⟨fun c => k0 (by omega), fun c => ⟨fun c2 => k0 (by omega), fun c2 => k1 (by omega) (by omega)⟩⟩
theorem n99 : (-99 : Int64).toInt = -99 ∧ (99 : Int64).toInt = 99 := by decide
theorem M_shift_ok {made v1 : Int32} {post : Int32 → Int32 → Int64 → Int64 → (Nat → Int32) → Prop} {great : Int32} {up down : Int64} {xx work : Nat → Int32} {z k : Nat} (hz : z < 100) (hk : k ≤ z) (hv : v1 = nI k) (hm : made = nI z)
    (h : ∀ work' : Nat → Int32, eqp (7 * (z + 1)) work' (ins work k xx) → post (nI (z + 1)) great up down work') : wj_M_put_273 made v1 post great up down xx work := by
  subst hv; subst hm
  unfold wj_M_put_273
  intro x8 e8
  have e7 : (7 : Int32) * nI z = nI (7 * z) := pk_mul 7 z
  have e7k : (7 : Int32) * nI k = nI (7 * k) := pk_mul 7 k
  rw [e7] at e8
  refine lpW2_ex _ (fun i w => ∃ m : Nat, i = nI m - 1 ∧ 7 * k ≤ m ∧ m ≤ 7 * z ∧ (∀ j, j < m → w j = work j) ∧ (∀ j, m ≤ j → j < 7 * z → w (j + 7) = work j)) (fun i _ => (i + 1).toNatClampNeg) ?_ _ _ ⟨7 * z, e8, by omega, by omega, fun _ _ => rfl, fun j h1 h2 => absurd h1 (by omega)⟩
  rintro ih i w ⟨m, rfl, h1, h2, h3, h4⟩ hs
  unfold wb_M_put_283
  rw [e7k]
  have c : nI m - 1 < nI (7 * k) ↔ m ≤ 7 * k := by
    have e1 : (nI m - nI 1).toInt = (m : Int) - 1 := pk_sub_toInt (by omega) (by omega)
    rw [Int32.lt_iff_toInt_lt, show nI m - 1 = nI m - nI 1 from rfl, e1, nI_toInt (by omega)]; omega
  rw [c]
  refine ⟨fun q x12 e12 => ?_, fun q => ?_⟩
  · have hmk : m = 7 * k := by omega
    subst hmk
    rw [show x12 = nI (z + 1) from e12.trans (nI_1 z)]
    refine lpW2_ex _ (fun i w2 => ∃ e : Nat, i = nI e ∧ e ≤ 7 ∧ (∀ j, j < e → w2 (7 * k + j) = xx j) ∧ (∀ j, j < 7 * k ∨ 7 * k + 7 ≤ j → w2 j = w j)) (fun i _ => 7 - i.toNatClampNeg) ?_ _ _ ⟨0, nI_0.symm, by omega, fun j hj => absurd hj (Nat.not_lt_zero j), fun _ _ => rfl⟩
    rintro ih2 i w2 ⟨e, rfl, g1, g2, g3⟩ hs2
    unfold wb_M_put_324
    have c7 : (7 : Int32) ≤ nI e ↔ 7 ≤ e := by
      have : (7 : Int32) = nI 7 := rfl
      rw [this]; exact nI_leI (by omega) (by omega)
    rw [c7]
    refine ⟨fun q2 => h w2 fun j hj => ?_, fun q2 => ?_⟩
    · have he : e = 7 := by omega
      unfold ins
      by_cases a : j < 7 * k
      · rw [if_pos a, g3 j (Or.inl a), h3 j a]
      · rw [if_neg a]
        by_cases b : j < 7 * k + 7
        · rw [if_pos b]
          have := g2 (j - 7 * k) (by omega)
          rw [show 7 * k + (j - 7 * k) = j by omega] at this; exact this
        · rw [if_neg b, g3 j (Or.inr (by omega))]
          have := h4 (j - 7) (by omega) (by omega)
          rw [show j - 7 + 7 = j by omega] at this; exact this
    · have e3 : (7 : Int32) * nI k + nI e = nI (7 * k + e) := by rw [e7k, nI_add]
      rw [e3, nI_clamp (by omega), nI_clamp (by omega)]
      refine ⟨vp_in_nI (by omega) (by omega), vp_in_nI (by omega) (by omega), fun w3 e4 x19 e19 => ?_⟩
      rw [nI_1] at e19
      refine hs2 _ _ ⟨e + 1, e19, by omega, fun j hj => ?_, fun j hj => ?_⟩ ?_
      · rw [e4]
        by_cases a : j = e
        · rw [a, pk_us]
        · rw [pk_un (by omega)]; exact g2 j (by omega)
      · rw [e4, pk_un (by omega)]; exact g3 j hj
      · show 7 - x19.toNatClampNeg < 7 - (nI e).toNatClampNeg
        rw [e19, nI_clamp (by omega), nI_clamp (by omega)]; omega
  · have em : nI m - 1 = nI (m - 1) := pk_sub (b := 1) (by omega)
    have em7 : nI (m - 1) + 7 = nI (m - 1 + 7) := nI_add _ 7
    rw [em, em7, nI_clamp (by omega), nI_clamp (by omega)]
    refine ⟨vp_in_nI (by omega) (by omega), vp_in_nI (by omega) (by omega), fun w2 e2 x23 e23 => ?_⟩
    have e23' : x23 = nI (m - 1) - 1 := by rw [e23, Int32.sub_eq_add_neg]
    refine hs _ _ ⟨m - 1, e23', by omega, by omega, fun j hj => ?_, fun j j1 j2 => ?_⟩ ?_
    · rw [e2, pk_un (by omega)]; exact h3 j (by omega)
    · rw [e2]
      by_cases a : j = m - 1
      · rw [a, pk_us]; exact h3 _ (by omega)
      · rw [pk_un (by omega)]; exact h4 j (by omega) j2
    · show (x23 + 1).toNatClampNeg < (nI m - 1 + 1).toNatClampNeg
      rw [e23', Int32.sub_add_cancel, Int32.sub_add_cancel, nI_clamp (by omega), nI_clamp (by omega)]; omega
theorem M_del_ok {x63 x64 : Int32} {post : Int32 → Int32 → Int64 → Int64 → (Nat → Int32) → Prop} {great : Int32} {up down : Int64} {work : Nat → Int32} {z k : Nat} (hz : z ≤ 100) (hk : k < z) (h63 : x63 = nI (z - 1)) (h64 : x64 = nI (7 * k))
    (h : ∀ work' : Nat → Int32, eqp (7 * (z - 1)) work' (del work k) → post (nI (z - 1)) great up down work') : ∃ n : Nat, lpW2 (wb_M_put_155 x63 post great up down) n x64 work := by
  subst h63; subst h64
  refine lpW2_ex _ (fun i w => ∃ m : Nat, i = nI m ∧ 7 * k ≤ m ∧ m ≤ 7 * (z - 1) ∧ (∀ j, j < m → w j = del work k j) ∧ (∀ j, m ≤ j → w j = work j)) (fun i _ => 7 * (z - 1) - i.toNatClampNeg) ?_ _ _ ⟨7 * k, rfl, by omega, by omega, fun j hj => by unfold del; rw [if_pos hj], fun _ _ => rfl⟩
  rintro ih i w ⟨m, rfl, h1, h2, h3, h4⟩ hs
  unfold wb_M_put_155
  have e7 : (7 : Int32) * nI (z - 1) = nI (7 * (z - 1)) := pk_mul 7 _
  rw [e7, nI_leI (by omega) (by omega)]
  refine ⟨fun q => h w fun j hj => h3 j (by omega), fun q => ?_⟩
  have em7 : nI m + 7 = nI (m + 7) := nI_add _ 7
  rw [em7, nI_clamp (by omega), nI_clamp (by omega)]
  refine ⟨vp_in_nI (by omega) (by omega), vp_in_nI (by omega) (by omega), fun w2 e2 x71 e71 => ?_⟩
  rw [nI_1] at e71
  refine hs _ _ ⟨m + 1, e71, by omega, by omega, fun j hj => ?_, fun j hj => ?_⟩ ?_
  · rw [e2]
    by_cases a : j = m
    · rw [a, pk_us, h4 _ (by omega)]; unfold del; rw [if_neg (by omega)]
    · rw [pk_un a]; exact h3 j (by omega)
  · rw [e2, pk_un (by omega)]; exact h4 j (by omega)
  · show 7 * (z - 1) - x71.toNatClampNeg < 7 * (z - 1) - (nI m).toNatClampNeg
    rw [e71, nI_clamp (by omega), nI_clamp (by omega)]; omega
theorem M_put_at {z k : Nat} {up down : Int64} {work xx : Nat → Int32} {post : Int32 → Int32 → Int64 → Int64 → (Nat → Int32) → Prop} (hz : z < 100) (hw : wfs work z) (ht : wfr xx 0) (hr : isPl work z xx k)
    (k1 : ∀ (z' : Nat) (r0 work' : Nat → Int32) (up' down' : Int64), putO z work xx = some (z', r0) → eqp (7 * z') work' r0 → post (nI z') 0 up' down' work') (k2 : putO z work xx = none → ∀ up' down' : Int64, post (nI z) 1 up' down' work) : wj_M_put_69 (nI z) (nI k) post 0 up down xx work := by
  have er : pl work z xx = k := isPl_uniq (pl_ok _ _ _) hr
  have hkz := hr.1
  have insert : ¬ (k < z ∧ rank work (7 * k) xx 0 = 0) → wj_M_put_273 (nI z) (nI k) post 0 up down xx work := by
    intro c
    refine M_shift_ok hz hr.1 rfl rfl fun work' h => k1 _ _ _ _ _ ?_ h
    unfold putO
    rw [er, if_neg c]
  unfold wj_M_put_69
  rw [nI_leI (by omega) (by omega)]
  refine ⟨fun c => insert (by omega), fun c => M_order_ok (by omega) ⟨fun q => insert (fun w => q w.2), fun q => ?_⟩⟩
  have hk : k < z := by omega
  obtain ⟨b1, b2, b3⟩ := nu_bd (hw.2 k hk) ht
  have c6 : (6 : Int32).toNatClampNeg = 6 := by decide
  have c5' : (5 : Int32).toNatClampNeg = 5 := by decide
  have e7k : (7 : Int32) * nI k = nI (7 * k) := pk_mul 7 k
  have e5 : nI (7 * k) + 5 = nI (7 * k + 5) := nI_add _ 5
  have e6 : nI (7 * k) + 6 = nI (7 * k + 6) := nI_add _ 6
  rw [e7k, e5, e6, nI_clamp (by omega), nI_clamp (by omega), c6, c5']
  refine ⟨vp_in_nI (by omega) (by omega), fun x44 e44 => ⟨vp_in_nI (by omega) (by omega), fun x46 e46 => ⟨in6_7, in5_7, ?_⟩⟩⟩
  subst e44; subst e46
  obtain ⟨X, eX⟩ : ∃ X : Int64, X = (work (7 * k + 5)).toInt64 * (xx 6).toInt64 + (xx 5).toInt64 * (work (7 * k + 6)).toInt64 := ⟨_, rfl⟩
  rw [← eX]
  have hX : X.toInt = nuA work k xx := by
    have m1 := ll_mul (i_abs (work (7 * k + 5))) (i_abs (xx 6))
    have m2 := ll_mul (i_abs (xx 5)) (i_abs (work (7 * k + 6)))
    have hA : (work (7 * k + 5)).toInt * (xx 6).toInt + (xx 5).toInt * (work (7 * k + 6)).toInt = nuA work k xx := rfl
    rw [eX, l_add (by rw [m1, m2]; omega) (by rw [m1, m2]; omega), m1, m2]; rfl
  have hB : ((work (7 * k + 6)).toInt64 * (xx 6).toInt64).toInt = nuB work k xx := ll_mul (i_abs _) (i_abs _)
  have cE : lg_cmp X 0 = 0 ↔ nuA work k xx = 0 := by
    rw [lg_cmp_eq, ← hX]
    exact ⟨fun q => by rw [q]; rfl, fun q => Int64.toInt_inj.mp (by rw [q]; rfl)⟩
  rw [cE]
  refine ⟨fun c1 => ⟨in6_7, in5_7, in6_7, ?_⟩, fun c1 x63 e63 x64 e64 => M_del_ok (by omega) hk (e63.trans (pk_sub (b := 1) (by omega))) e64 fun work' h => k1 _ _ _ _ _ ?_ h⟩
  · refine M_lowest_ok (by rw [hX]; omega) (by rw [hB]; omega) (by rw [hB]; exact b3) fun u d hu hd => ?_
    rw [hX, hB] at hu hd
    have bu : u.toInt.natAbs ≤ 2 ^ 62 := by rw [hu]; exact Nat.le_trans (tdiv_le _ _) (by omega)
    have pd := redD_pos (a := nuA work k xx) b3
    refine M_bound_ok bu (fun c2 => ?_) (fun c2 => ?_)
    · refine ⟨fun w => absurd w (by decide), fun _ => k2 ?_ _ _⟩
      rw [hu, hd] at c2
      unfold big2 at c2
      unfold putO
      rw [er, if_pos ⟨hk, q⟩, if_neg c1, if_pos c2]
    · refine ⟨fun _ => ⟨vp_in_nI (by omega) (by omega), fun w1 ew1 => ⟨vp_in_nI (by omega) (by omega), fun w2 ew2 => ?_⟩⟩, fun w => absurd rfl w⟩
      rw [hu, hd] at c2
      unfold big2 at c2
      have hu2 : u.toInt32.toInt = redU (nuA work k xx) (nuB work k xx) := by rw [l_i32 (by omega) (by omega), hu]
      have hd2 : d.toInt32.toInt = redD (nuA work k xx) (nuB work k xx) := by rw [l_i32 (by omega) (by omega), hd]
      rw [ew2, ew1, i_of_eq hu2, i_of_eq hd2]
      refine k1 z (set2 work k (Int32.ofInt (redU (nuA work k xx) (nuB work k xx))) (Int32.ofInt (redD (nuA work k xx) (nuB work k xx)))) _ _ _ ?_ (fun _ _ => rfl)
      unfold putO
      rw [er, if_pos ⟨hk, q⟩, if_neg c1, if_neg c2]
  · unfold putO
    rw [er, if_pos ⟨hk, q⟩, if_pos c1]
theorem M_put_ok {z : Nat} {made great : Int32} {up down : Int64} {work xx : Nat → Int32} {post : Int32 → Int32 → Int64 → Int64 → (Nat → Int32) → Prop} (hg : great = 0 ∨ great = 1)
    (k0 : (great = 1 ∨ ∃ j, j < 5 ∧ ¬ wfe (xx j)) → post made 1 up down work)
    (h1 : great = 0 → (∀ j, j < 5 → wfe (xx j)) → made = nI z ∧ z < 100 ∧ wfs work z ∧ wfr xx 0)
    (k1 : great = 0 → (∀ j, j < 5 → wfe (xx j)) → ∀ (z' : Nat) (r0 work' : Nat → Int32) (up' down' : Int64), putO z work xx = some (z', r0) → eqp (7 * z') work' r0 → post (nI z') 0 up' down' work')
    (k2 : great = 0 → (∀ j, j < 5 → wfe (xx j)) → putO z work xx = none → ∀ up' down' : Int64, post (nI z) 1 up' down' work) : wp_M_put made great up down work xx post := by
  unfold wp_M_put
  refine lpW2_ex _ (fun i g => ∃ e : Nat, i = nI e ∧ e ≤ 5 ∧ ((g = 0 ∧ great = 0 ∧ ∀ j, j < e → wfe (xx j)) ∨ (g = 1 ∧ (great = 1 ∨ ∃ j, j < 5 ∧ ¬ wfe (xx j))))) (fun i _ => 5 - i.toNatClampNeg) ?_ _ _ ⟨0, nI_0.symm, by omega, by
    rcases hg with q | q
    · exact Or.inl ⟨q, q, fun j hj => absurd hj (Nat.not_lt_zero j)⟩
    · exact Or.inr ⟨q, Or.inl q⟩⟩
  rintro ih i g ⟨e, rfl, he, hI⟩ hs
  unfold wb_M_put_2
  rw [five_le he]
  refine ⟨fun c => ⟨fun c2 => ?_, fun c2 => ?_⟩, fun c => ⟨vp_in_nI (by omega) (by omega), ?_⟩⟩
  · subst c2
    rcases hI with ⟨-, q1, q2⟩ | ⟨q1, -⟩
    · have q2' : ∀ j, j < 5 → wfe (xx j) := fun j hj => q2 j (by omega)
      obtain ⟨m1, m2, m3, m4⟩ := h1 q1 q2'
      subst m1
      refine lpW1_ex _ (fun i => ∃ k : Nat, i = nI k ∧ k ≤ z ∧ ∀ j, j < k → rank work (7 * j) xx 0 = 1) (fun i => z - i.toNatClampNeg) ?_ _ ⟨0, nI_0.symm, by omega, fun j hj => absurd hj (Nat.not_lt_zero j)⟩
      rintro ih2 i ⟨k, rfl, w1, w2⟩ hs2
      unfold wb_M_put_47
      rw [nI_leI (by omega) (by omega)]
      refine ⟨fun c3 => M_put_at m2 m3 m4 ⟨w1, w2, fun v => absurd v (by omega)⟩ (k1 q1 q2') (k2 q1 q2'), fun c3 => M_order_ok (by omega) ?_⟩
      rw [rank_le0]
      refine ⟨fun c4 => M_put_at m2 m3 m4 ⟨w1, w2, fun _ => c4⟩ (k1 q1 q2') (k2 q1 q2'), fun c4 x ex => ?_⟩
      rw [nI_1] at ex
      refine hs2 _ ⟨k + 1, ex, by omega, fun j hj => ?_⟩ ?_
      · rcases Nat.lt_or_ge j k with v | v
        · exact w2 j v
        · have : j = k := by omega
          rw [this]; exact Classical.byContradiction c4
      · show z - x.toNatClampNeg < z - (nI k).toNatClampNeg
        rw [ex, nI_clamp (by omega), nI_clamp (by omega)]; omega
    · exact absurd q1 (by decide)
  · rcases hI with ⟨q1, -⟩ | ⟨q1, q2⟩
    · exact absurd q1 c2
    · subst q1; exact k0 q2
  · rw [nI_clamp (by omega)]
    have wf : (wfe (xx e)) ↔ ((-99 : Int64).toInt ≤ ((xx e).toInt64).toInt ∧ ((xx e).toInt64).toInt ≤ (99 : Int64).toInt) := by
      rw [n99.1, n99.2, l_of_i]; rfl
    have step : ∀ x : Int32, x = nI e + 1 → x = nI (e + 1) ∧ 5 - x.toNatClampNeg < 5 - (nI e).toNatClampNeg := fun x ex => by
      rw [nI_1] at ex
      refine ⟨ex, ?_⟩
      rw [ex, nI_clamp (by omega), nI_clamp (by omega)]; omega
    refine M_in_ok (fun a b => ⟨fun _ x ex => ?_, fun w => absurd w (by decide)⟩) (fun a => ⟨fun w => absurd rfl w, fun _ x ex => ?_⟩)
    · refine hs _ _ ⟨e + 1, (step x ex).1, by omega, ?_⟩ (step x ex).2
      rcases hI with ⟨q1, q2, q3⟩ | q
      · refine Or.inl ⟨q1, q2, fun j hj => ?_⟩
        rcases Nat.lt_or_ge j e with v | v
        · exact q3 j v
        · have : j = e := by omega
          rw [this]; exact wf.mpr ⟨a, b⟩
      · exact Or.inr q
    · refine hs _ _ ⟨e + 1, (step x ex).1, by omega, Or.inr ⟨rfl, Or.inr ⟨e, by omega, fun v => a (wf.mp v)⟩⟩⟩ (step x ex).2
