/-! KEEP: what is kept, on both sides; the invariant; outcomes of a call that makes a function. -/
def InvK (n : Nat) (zs : Nat → Nat) (made : Int32) (kept sizes : Nat → Int32) (funs : Int32) (qsize qrows : Nat → Int32) : Prop :=
  n ≤ 80 ∧ made = nI n ∧ funs = nI n ∧ ∀ f, f < n → zs f ≤ 10 ∧ sizes f = nI (zs f) ∧ qsize f = nI (zs f) ∧ (∀ j, j < 7 * zs f → kept (70 * f + j) = qrows (70 * f + j)) ∧ wfs (fun j => kept (70 * f + j)) (zs f)
def kpt (n z : Nat) (f kept kept' : Nat → Int32) : Prop := (∀ j, j < 7 * z → kept' (70 * n + j) = f j) ∧ ∀ j, j < 70 * n → kept' j = kept j
def refu (s : Sst) : Prop := s = none ∨ ∃ z f, s = some (z, f) ∧ 10 < z
theorem G_keep_ok {s : Sst} {c n : Nat} {size tooG made : Int32} {rows kept sizes : Nat → Int32} {post : Int32 → Int32 → (Nat → Int32) → (Nat → Int32) → Prop} {postx : String → Int32 → (Nat → Int32) → (Nat → Int32) → Prop} (h : RC s c size tooG rows) (hc : c ≤ 100) (hn : n < 80) (hm : made = nI n)
    (k1 : refu s → postx "java/lang/IllegalStateException" made kept sizes) (k2 : ∀ (z : Nat) (f kept' : Nat → Int32), s = some (z, f) → z ≤ 10 → wfs f z → kpt n z f kept kept' → post (nI n) (nI (n + 1)) kept' (upd sizes n (nI z))) : wp_G_keep made size tooG kept sizes rows post postx := by
  obtain ⟨z, rfl, hz, hw, hst⟩ := h
  subst hm
  unfold wp_G_keep
  have cz : nI z ≤ 10 ↔ z ≤ 10 := by
    have : (10 : Int32) = nI 10 := rfl
    rw [this]; exact nI_leI (by omega) (by omega)
  rw [cz]
  rcases hst with ⟨q1, q2⟩ | ⟨f, q1, q2, q3⟩
  · exact ⟨fun _ => k1 (Or.inl q1), fun w => by rw [q2] at w; exact absurd w (by decide)⟩
  · refine ⟨fun w => absurd q2 w, fun _ => ⟨fun c1 => ?_, fun c1 => k1 (Or.inr ⟨z, f, q1, by omega⟩)⟩⟩
    unfold wp_G_rowOf
    have e1 : (nI n * 10 + 0) * 7 = nI (70 * n) := by
      rw [show nI n * 10 = nI (n * 10) from pk_mul n 10, show nI (n * 10) + 0 = nI (n * 10 + 0) from nI_add _ 0, show (nI (n * 10 + 0)) * 7 = nI ((n * 10 + 0) * 7) from pk_mul _ 7]; congr 1; omega
    have e2 : nI z * 7 = nI (7 * z) := by rw [Nat.mul_comm 7 z]; exact pk_mul z 7
    have c0 : (0 : Int32).toNatClampNeg = 0 := by decide
    rw [e1]
    dsimp only
    rw [e2, c0, nI_clamp (by omega), nI_clamp (by omega), nI_clamp (by omega)]
    refine ⟨⟨by decide, nI_pos (by omega), nI_pos (by omega), by omega, by omega⟩, fun k6 e6 => ⟨vp_in_nI hn (by omega), fun s8 e8 x9 e9 => ?_⟩⟩
    rw [nI_1] at e9
    rw [e8, e9, show nI (n + 1) - 1 = nI n from nI_pred n]
    refine k2 z f k6 q1 c1 (wfs_congr q3 hw) ⟨fun j hj => ?_, fun j hj => ?_⟩
    · rw [e6, pk_cpy_in (by omega) (by omega), ← q3 j hj]; congr 1; omega
    · rw [e6, pk_cpy_out (Or.inl hj)]
theorem M_keep_ok {s : Sst} {c n : Nat} {code made great funs : Int32} {work size rows : Nat → Int32} {post : Int32 → Int32 → Int32 → (Nat → Int32) → (Nat → Int32) → Prop} (h : RM s c made great work) (hc : c ≤ 100) (hn : n < 80) (hm : funs = nI n)
    (k1 : refu s → post 0 2 funs size rows) (k2 : ∀ (z : Nat) (f rows' : Nat → Int32), s = some (z, f) → z ≤ 10 → wfs f z → kpt n z f rows rows' → post (nI n) 0 (nI (n + 1)) (upd size n (nI z)) rows') : wp_M_keep code funs made great size rows work post := by
  subst hm
  unfold wp_M_keep
  rcases h with ⟨q1, q2⟩ | ⟨z, f, q1, q2, q3, q4, q5, q6⟩
  · refine ⟨fun _ => ?_, fun w => by rw [q2] at w; exact absurd w (by decide)⟩
    unfold wj_M_keep_16 wp_M_raise
    exact k1 (Or.inl q1)
  · subst q4
    have cz : nI z ≤ 10 ↔ z ≤ 10 := by
      have : (10 : Int32) = nI 10 := rfl
      rw [this]; exact nI_leI (by omega) (by omega)
    rw [cz]
    refine ⟨fun w => absurd q5 w, fun _ => ⟨fun c1 => ⟨vp_in_nI hn (by omega), fun s7 e7 => ?_⟩, fun c1 => ?_⟩⟩
    · rw [nI_clamp (by omega)] at e7
      subst e7
      have e1 : (70 : Int32) * nI n = nI (70 * n) := pk_mul 70 n
      have e2 : (7 : Int32) * nI z = nI (7 * z) := pk_mul 7 z
      refine lpW2_ex _ (fun i r => ∃ e : Nat, i = nI e ∧ e ≤ 7 * z ∧ (∀ j, j < e → r (70 * n + j) = f j) ∧ ∀ j, j < 70 * n → r j = rows j) (fun i _ => 7 * z - i.toNatClampNeg) ?_ _ _ ⟨0, nI_0.symm, by omega, fun j hj => absurd hj (Nat.not_lt_zero j), fun _ _ => rfl⟩
      rintro ih i r ⟨e, rfl, he, g1, g2⟩ hs
      unfold wb_M_keep_42
      rw [e1, e2, nI_leI (by omega) (by omega), nI_add, nI_clamp (by omega), nI_clamp (by omega)]
      refine ⟨fun c2 x11 e11 => ?_, fun c2 => ⟨vp_in_nI (by omega) (by omega), vp_in_nI (by omega) (by omega), fun r14 e14 x15 e15 => ?_⟩⟩
      · rw [nI_1] at e11
        rw [e11, show nI (n + 1) - 1 = nI n from nI_pred n]
        exact k2 z f r q1 c1 q3 ⟨fun j hj => g1 j (by omega), g2⟩
      · rw [nI_1] at e15
        refine hs _ _ ⟨e + 1, e15, by omega, fun j hj => ?_, fun j hj => ?_⟩ ?_
        · rw [e14]
          by_cases w : j = e
          · rw [w, pk_us, q6 e (by omega)]
          · rw [pk_un (by omega)]; exact g1 j (by omega)
        · rw [e14, pk_un (by omega)]; exact g2 j hj
        · show 7 * z - x15.toNatClampNeg < 7 * z - (nI e).toNatClampNeg
          rw [e15, nI_clamp (by omega), nI_clamp (by omega)]; omega
    · unfold wj_M_keep_16 wp_M_raise
      exact k1 (Or.inr ⟨z, f, q1, by omega⟩)
/-- an outcome: a refusal's number; the answer -1; a sum to keep -/
abbrev Oc := Int32 ⊕ Option Sst
def CR (o : Oc) (n : Nat) (made : Int32) (kept sizes : Nat → Int32) (r made' : Int32) (kept' sizes' : Nat → Int32) (out' : Nat → Int64) : Prop := match o with
  | .inl e => e ≠ 0 ∧ r = e ∧ made' = made ∧ kept' = kept ∧ sizes' = sizes
  | .inr none => r = 0 ∧ out' 0 = -1 ∧ made' = made ∧ kept' = kept ∧ sizes' = sizes
  | .inr (some s) => (refu s ∧ r = 2 ∧ made' = made ∧ kept' = kept ∧ sizes' = sizes) ∨ ∃ (z : Nat) (f : Nat → Int32), s = some (z, f) ∧ z ≤ 10 ∧ wfs f z ∧ r = 0 ∧ out' 0 = (nI n).toInt64 ∧ made' = nI (n + 1) ∧ kpt n z f kept kept' ∧ sizes' = upd sizes n (nI z)
def MR (o : Oc) (n : Nat) (funs : Int32) (size rows : Nat → Int32) (b code' funs' : Int32) (size' rows' : Nat → Int32) : Prop := match o with
  | .inl e => code' = e ∧ funs' = funs ∧ size' = size ∧ rows' = rows
  | .inr none => code' = 0 ∧ b = -1 ∧ funs' = funs ∧ size' = size ∧ rows' = rows
  | .inr (some s) => (refu s ∧ code' = 2 ∧ funs' = funs ∧ size' = size ∧ rows' = rows) ∨ ∃ (z : Nat) (f : Nat → Int32), s = some (z, f) ∧ z ≤ 10 ∧ wfs f z ∧ code' = 0 ∧ b = nI n ∧ funs' = nI (n + 1) ∧ kpt n z f rows rows' ∧ size' = upd size n (nI z)
theorem refu_not {z : Nat} {f : Nat → Int32} (h : refu (some (z, f))) (hz : z ≤ 10) : False := by
  rcases h with q | ⟨z', f', q, w⟩
  · cases q
  · cases q; omega
theorem InvK_keep {n z : Nat} {zs : Nat → Nat} {made funs : Int32} {kept sizes qsize qrows f f' kept' qrows' : Nat → Int32} (h : InvK n zs made kept sizes funs qsize qrows) (hn : n < 80) (hz : z ≤ 10) (hw : wfs f z) (he : eqp (7 * z) f f') (h1 : kpt n z f kept kept') (h2 : kpt n z f' qrows qrows') :
    InvK (n + 1) (fun k => if k = n then z else zs k) (nI (n + 1)) kept' (upd sizes n (nI z)) (nI (n + 1)) (upd qsize n (nI z)) qrows' := by
  refine ⟨by omega, rfl, rfl, fun k hk => ?_⟩
  by_cases c : k = n
  · subst c
    dsimp only
    rw [if_pos rfl, pk_us, pk_us]
    refine ⟨hz, rfl, rfl, fun j hj => by rw [h1.1 j hj, h2.1 j hj]; exact he j hj, wfs_congr (fun j hj => (h1.1 j hj).symm) hw⟩
  · obtain ⟨a1, a2, a3, a4, a5⟩ := h.2.2.2 k (by omega)
    dsimp only
    rw [if_neg c, pk_un c, pk_un c]
    refine ⟨a1, a2, a3, fun j hj => ?_, wfs_congr (fun j hj => ?_) a5⟩
    · rw [h1.2 _ (by omega), h2.2 _ (by omega)]; exact a4 j hj
    · exact (h1.2 _ (by omega)).symm
/-- both sides' outcomes agree, and the invariant holds again -/
theorem fin_ok {o : Oc} {n : Nat} {zs : Nat → Nat} {made funs : Int32} {kept sizes qsize qrows : Nat → Int32} {r made' : Int32} {kept' sizes' : Nat → Int32} {out' : Nat → Int64} {b code' funs' : Int32} {qsize' qrows' : Nat → Int32} (h : InvK n zs made kept sizes funs qsize qrows) (hn : ∀ s, o = .inr (some s) → n < 80)
    (h1 : CR o n made kept sizes r made' kept' sizes' out') (h2 : MR o n funs qsize qrows b code' funs' qsize' qrows') : code' = r ∧ (r = 0 → out' 0 = b.toInt64) ∧ ∃ n' zs', InvK n' zs' made' kept' sizes' funs' qsize' qrows' := by
  match o, h1, h2, hn with
  | .inl e, h1, h2, _ =>
    obtain ⟨a0, rfl, rfl, rfl, rfl⟩ := h1
    obtain ⟨rfl, rfl, rfl, rfl⟩ := h2
    exact ⟨rfl, fun w => absurd w a0, n, zs, h⟩
  | .inr none, h1, h2, _ =>
    obtain ⟨rfl, a1, rfl, rfl, rfl⟩ := h1
    obtain ⟨rfl, rfl, rfl, rfl, rfl⟩ := h2
    exact ⟨rfl, fun _ => by rw [a1]; decide, n, zs, h⟩
  | .inr (some s), h1, h2, hn =>
    rcases h1 with ⟨a0, rfl, rfl, rfl, rfl⟩ | ⟨z, f, a1, a2, a3, rfl, a4, rfl, a5, rfl⟩
    · rcases h2 with ⟨-, rfl, rfl, rfl, rfl⟩ | ⟨z, f, b1, b2, -⟩
      · exact ⟨rfl, fun w => absurd w (by decide), n, zs, h⟩
      · rw [b1] at a0; exact (refu_not a0 b2).elim
    · rcases h2 with ⟨b0, -⟩ | ⟨z', f', b1, b2, b3, rfl, rfl, rfl, b5, rfl⟩
      · rw [a1] at b0; exact (refu_not b0 a2).elim
      · rw [a1] at b1; cases b1
        exact ⟨rfl, fun _ => a4, _, _, InvK_keep h (hn s rfl) a2 a3 (fun _ _ => rfl) a5 b5⟩
/-- a handle -/
def isH (p : Int32) (n : Nat) : Prop := ∃ f, f < n ∧ p = nI f
theorem isH_iff {p : Int32} {n : Nat} (hn : n ≤ 80) : isH p n ↔ 0 ≤ p.toInt ∧ p.toInt < n := by
  constructor
  · rintro ⟨f, h1, rfl⟩; rw [nI_toInt (by omega)]; omega
  · rintro ⟨h1, h2⟩
    refine ⟨p.toInt.toNat, by omega, Int32.toInt_inj.mp ?_⟩
    rw [nI_toInt (by omega)]; omega
theorem G_reqF_ok {made p : Int32} {n : Nat} {post : Prop} {postx : String → Prop} (hn : n ≤ 80) (hm : made = nI n) (k1 : isH p n → post) (k2 : ¬ isH p n → postx "java/lang/IndexOutOfBoundsException") : wp_G_requireFunction made p post postx := by
  subst hm
  unfold wp_G_requireFunction
  rw [isH_iff hn] at k1 k2
  rw [Int32.lt_iff_toInt_lt, Int32.lt_iff_toInt_lt, i_0, nI_toInt (by omega)]
  exact ⟨fun c => k2 (by omega), fun c => ⟨fun c2 => k1 (by omega), fun c2 => k2 (by omega)⟩⟩
theorem G_reqR_ok {made : Int32} {n : Nat} {post : Prop} {postx : String → Prop} (hn : n ≤ 80) (hm : made = nI n) (k1 : n < 80 → post) (k2 : n = 80 → postx "java/lang/IllegalStateException") : wp_G_requireRoom made post postx := by
  subst hm
  unfold wp_G_requireRoom
  have cz : nI n < 80 ↔ n < 80 := by
    have : (80 : Int32) = nI 80 := rfl
    rw [this]; exact nI_ltI (by omega) (by omega)
  rw [cz]
  exact ⟨k1, fun c => k2 (by omega)⟩
theorem M_isF_ok {funs p : Int32} {n : Nat} {post : Int32 → Prop} (hn : n ≤ 80) (hm : funs = nI n) (k1 : isH p n → post 1) (k2 : ¬ isH p n → post 0) : wp_M_isFunction funs p post := by
  subst hm
  unfold wp_M_isFunction
  rw [isH_iff hn] at k1 k2
  have e : ((nI n - 1).toInt64).toInt = (n : Int) - 1 := by
    rw [l_of_i, show nI n - 1 = nI n - nI 1 from rfl, pk_sub_toInt (by omega) (by omega)]; rfl
  refine M_in_ok (fun a b => ?_) (fun a => ?_)
  · rw [l_0, l_of_i] at a
    rw [l_of_i, e] at b
    first | exact k1 ⟨a, by omega⟩ | exact ⟨zb_1, k1 ⟨a, by omega⟩⟩
  · rw [l_0, l_of_i, e] at a
    first | exact k2 (by omega) | exact ⟨zb_0, k2 (by omega)⟩
theorem f80 {n : Nat} (hn : n ≤ 80) : nI n = 80 ↔ n = 80 := by
  have : (80 : Int32) = nI 80 := rfl
  rw [this]; exact nI_eq (by omega) (by omega)
theorem M_may_ok {code funs p q : Int32} {n : Nat} {post : Int32 → Int32 → Prop} (hn : n ≤ 80) (hm : funs = nI n) (k1 : ¬ (isH p n ∧ isH q n) → post 0 1) (k2 : isH p n → isH q n → n = 80 → post 0 2) (k3 : isH p n → isH q n → n < 80 → post 1 0) : wp_M_may code funs p q post := by
  unfold wp_M_may
  refine M_isF_ok hn hm (fun a => ⟨fun w => absurd w (by decide), fun _ => M_isF_ok hn hm (fun b => ⟨fun _ => ⟨fun w => ?_, fun w => ?_⟩, fun w => absurd w (by decide)⟩) (fun b => ⟨fun w => absurd rfl w, fun _ => k1 (fun w => b w.2)⟩)⟩) (fun a => ⟨fun _ => k1 (fun w => a w.1), fun w => absurd rfl w⟩)
  · subst hm; rw [f80 hn] at w; exact k3 a b (by omega)
  · subst hm; rw [f80 hn] at w; exact k2 a b w
