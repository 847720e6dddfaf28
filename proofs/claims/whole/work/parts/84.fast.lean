/-! fastest. -/
section Fa
variable {n : Nat} {zs : Nat → Nat} {made funs : Int32} {kept sizes qsize qrows : Nat → Int32}
theorem bL1 {p : Int32} {k : Nat} (hk : k < 32) : ((p.toUInt32 >>> ((nI k).toUInt32 &&& Int32.toUInt32 31)).toInt32 &&& 1) = 1 ↔ bitS p k = true := by
  rw [bit_L p hk]
  cases bitS p k
  · exact ⟨fun w => absurd w (by decide), fun w => absurd w (by decide)⟩
  · exact ⟨fun _ => rfl, fun _ => rfl⟩
theorem bR1 {p : Int32} {k : Nat} (hk : k < 32) : ((p >>> (nI k &&& 31)) &&& 1) = 1 ↔ bitS p k = true := by
  rw [bit_R p hk]
  cases bitS p k
  · exact ⟨fun w => absurd w (by decide), fun w => absurd w (by decide)⟩
  · exact ⟨fun _ => rfl, fun _ => rfl⟩
theorem bR0 {p : Int32} {k : Nat} (hk : k < 32) : ((p >>> (nI k &&& 31)) &&& 1) = 0 ↔ ¬ bitS p k = true := by
  rw [bit_R p hk]
  cases bitS p k
  · exact ⟨fun _ w => absurd w (by decide), fun _ => rfl⟩
  · exact ⟨fun w => absurd w (by decide), fun w => absurd rfl w⟩
/-- the fastest of the first k -/
def bO (kept : Nat → Int32) (zs : Nat → Nat) (p : Int32) : Nat → Option Nat
  | 0 => none
  | k + 1 => if bitS p k = true then (match bO kept zs p k with
      | none => some k
      | some b => if cmT kept k (zs k) b (zs b) ≤ 0 then some b else some k) else bO kept zs p k
def encO (o : Option Nat) : Int32 := match o with
  | none => -1
  | some b => nI b
theorem bO_lt {p : Int32} : ∀ {k : Nat}, (∀ j, j < k → bitS p j = true → j < n) → ∀ b, bO kept zs p k = some b → b < n
  | 0, _, b, h => by cases h
  | k + 1, hall, b, h => by
    unfold bO at h
    have ih := @bO_lt p k (fun j hj => hall j (by omega))
    by_cases q : bitS p k = true
    · rw [if_pos q] at h
      have hk := hall k (by omega) q
      cases e : bO kept zs p k with
      | none => rw [e] at h; cases h; exact hk
      | some b' =>
        rw [e] at h
        dsimp only at h
        split at h
        · cases h; exact ih _ e
        · cases h; exact hk
    · rw [if_neg q] at h; exact ih b h
theorem bO_no {p : Int32} {k : Nat} (h : ¬ bitS p k = true) : bO kept zs p (k + 1) = bO kept zs p k := if_neg h
theorem bO_new {p : Int32} {k : Nat} (h : bitS p k = true) (e : bO kept zs p k = none) : bO kept zs p (k + 1) = some k := by
  show (if _ then _ else _) = _
  rw [if_pos h, e]
theorem bO_old {p : Int32} {k b : Nat} (h : bitS p k = true) (e : bO kept zs p k = some b) (c : cmT kept k (zs k) b (zs b) ≤ 0) : bO kept zs p (k + 1) = some b := by
  show (if _ then _ else _) = _
  rw [if_pos h, e]
  exact if_pos c
theorem bO_up {p : Int32} {k b : Nat} (h : bitS p k = true) (e : bO kept zs p k = some b) (c : ¬ cmT kept k (zs k) b (zs b) ≤ 0) : bO kept zs p (k + 1) = some k := by
  show (if _ then _ else _) = _
  rw [if_pos h, e]
  exact if_neg c
theorem k32 {k : Nat} (h : k ≤ 32) : (32 : Int32) ≤ nI k ↔ 32 ≤ k := by
  have : (32 : Int32) = nI 32 := rfl
  rw [this]; exact nI_leI (by omega) (by omega)
theorem nI_neg {b : Nat} (h : b ≤ 80) : ¬ nI b < 0 ∧ ¬ nI b = -1 := by
  have e : (nI b).toInt = b := nI_toInt (by omega)
  constructor
  · rw [Int32.lt_iff_toInt_lt, e, i_0]; omega
  · intro w
    have := congrArg Int32.toInt w
    rw [e, show (-1 : Int32).toInt = -1 by decide] at this; omega
theorem fastest_read (h : InvK n zs made kept sizes funs qsize qrows) (p : Int32) : ∃ o : Int32 ⊕ Int32, (∀ e, o = .inl e → e = 1) ∧
    (∀ post postx, RG o eF post postx → wp_G_fastest made kept sizes p post postx) ∧ (∀ code post, RQ o post → wp_M_fastest code funs qsize qrows p post) := by
  have hn := h.1
  have hm := h.2.1
  have hfn := h.2.2.1
  obtain ⟨o, ho1, ho2, ho3⟩ : ∃ o : Int32 ⊕ Int32, ((∀ j, j < 32 → bitS p j = true → j < n) → o = .inr (encO (bO kept zs p 32))) ∧ (∀ j, j < 32 → bitS p j = true → ¬ j < n → o = .inl 1) ∧ (∀ e, o = .inl e → e = 1) := by
    by_cases c : ∀ j, j < 32 → bitS p j = true → j < n
    · exact ⟨.inr (encO (bO kept zs p 32)), fun _ => rfl, fun j j1 j2 j3 => absurd (c j j1 j2) j3, fun e q => by cases q⟩
    · exact ⟨.inl 1, fun w => absurd w c, fun _ _ _ _ => rfl, fun e q => by cases q; rfl⟩
  have ltn : ∀ k, k ≤ 32 → ∀ {q : Int32}, q = nI n → (nI k < q ↔ k < n) := fun k hk q hq => by rw [hq]; exact nI_ltI (by omega) (by omega)
  refine ⟨o, ho3, fun post postx hk => ?_, fun code post hk => ?_⟩
  · unfold wp_G_fastest
    refine lpW2_ex _ (fun v2 v3 => ∃ k : Nat, v3 = nI k ∧ k ≤ 32 ∧ (∀ j, j < k → bitS p j = true → j < n) ∧ v2 = encO (bO kept zs p k)) (fun _ v3 => 32 - v3.toNatClampNeg) ?_ _ _ ⟨0, nI_0.symm, by omega, fun j hj => absurd hj (Nat.not_lt_zero j), rfl⟩
    rintro ih v2 v3 ⟨k, rfl, hk32, hall, rfl⟩ hs
    unfold wb_G_fastest_4
    rw [k32 hk32]
    refine ⟨fun c => ?_, fun c => ?_⟩
    · have : k = 32 := by omega
      subst this
      rw [ho1 hall] at hk; exact hk
    · rw [bL1 (by omega), ltn k hk32 hm]
      have nx : ∀ x, x = nI k + 1 → (bitS p k = true → k < n) → ∀ v, v = encO (bO kept zs p (k + 1)) → ih v x := fun x ex hb v hv => by
        rw [nI_1] at ex
        refine hs _ _ ⟨k + 1, ex, by omega, fun j hj => ?_, hv⟩ ?_
        · rcases Nat.lt_or_ge j k with w | w
          · exact hall j w
          · have : j = k := by omega
            rw [this]; exact hb
        · show 32 - x.toNatClampNeg < 32 - (nI k).toNatClampNeg
          rw [ex, nI_clamp (by omega), nI_clamp (by omega)]; omega
      refine ⟨fun b x ex => nx x ex (fun w => absurd w b) _ (by rw [bO_no b]), fun b => ⟨fun hkn => ?_, fun hkn => ?_⟩⟩
      · cases e : bO kept zs p k with
        | none => exact ⟨fun _ x ex => nx x ex (fun _ => hkn) _ (by rw [bO_new b e]; rfl), fun w => absurd (show (-1 : Int32) < 0 by decide) w⟩
        | some b' =>
          have hb' := bO_lt hall b' e
          obtain ⟨a1, a2, a3, a4, a5⟩ := h.2.2.2 k hkn
          obtain ⟨c1, c2, c3, c4, c5⟩ := h.2.2.2 b' hb'
          refine ⟨fun w => absurd w (nI_neg (by omega)).1, fun _ => G_cmp_ok (by omega) (by omega) a2 c2 a1 c1 ⟨fun w x ex => nx x ex (fun _ => hkn) _ (by rw [bO_old b e w]), fun w x ex => nx x ex (fun _ => hkn) _ (by rw [bO_up b e w]; rfl)⟩⟩
      · rw [ho2 k (by omega) b hkn] at hk; exact hk
  · unfold wp_M_fastest
    refine lpW2_ex _ (fun v2 c2 => ∃ k : Nat, v2 = nI k ∧ k ≤ 32 ∧ ((c2 = 0 ∧ ∀ j, j < k → bitS p j = true → j < n) ∨ (c2 = 1 ∧ ∃ j, j < 32 ∧ bitS p j = true ∧ ¬ j < n))) (fun v2 _ => 32 - v2.toNatClampNeg) ?_ _ _ ⟨0, nI_0.symm, by omega, Or.inl ⟨rfl, fun j hj => absurd hj (Nat.not_lt_zero j)⟩⟩
    rintro ih v2 c2 ⟨k, rfl, hk32, hst⟩ hs
    unfold wb_M_fastest_7
    rw [k32 hk32]
    refine ⟨fun c => ?_, fun c => ?_⟩
    · have : k = 32 := by omega
      subst this
      rcases hst with ⟨rfl, hall⟩ | ⟨rfl, j, j1, j2, j3⟩
      · refine ⟨fun _ => ?_, fun w => absurd (show (0 : Int32) ≤ 0 by decide) w⟩
        refine lpW2_ex _ (fun v2 v3 => ∃ k : Nat, v3 = nI k ∧ k ≤ 32 ∧ v2 = encO (bO kept zs p k)) (fun _ v3 => 32 - v3.toNatClampNeg) ?_ _ _ ⟨0, nI_0.symm, by omega, rfl⟩
        rintro ih2 v2 v3 ⟨k, rfl, hk32, rfl⟩ hs2
        unfold wb_M_fastest_54
        rw [k32 hk32]
        refine ⟨fun c => ?_, fun c => ?_⟩
        · have : k = 32 := by omega
          subst this
          rw [ho1 hall] at hk; exact hk
        · rw [bR0 (by omega)]
          have nx : ∀ x, x = nI k + 1 → ∀ v, v = encO (bO kept zs p (k + 1)) → ih2 v x := fun x ex v hv => by
            rw [nI_1] at ex
            refine hs2 _ _ ⟨k + 1, ex, by omega, hv⟩ ?_
            show 32 - x.toNatClampNeg < 32 - (nI k).toNatClampNeg
            rw [ex, nI_clamp (by omega), nI_clamp (by omega)]; omega
          refine ⟨fun b0 => ?_, fun b x ex => nx x ex _ (by rw [bO_no b])⟩
          have b : bitS p k = true := Classical.byContradiction b0
          have hkn := hall k (by omega) b
          cases e : bO kept zs p k with
          | none => exact ⟨fun _ x ex => nx x ex _ (by rw [bO_new b e]; rfl), fun w => absurd (show (-1 : Int32) = -1 from rfl) w⟩
          | some b' =>
            have hb' := bO_lt (fun j hj => hall j (by omega)) b' e
            obtain ⟨a1, a2, a3, a4, a5⟩ := h.2.2.2 k hkn
            obtain ⟨c1, c2, c3, c4, c5⟩ := h.2.2.2 b' hb'
            refine ⟨fun w => absurd w (nI_neg (by omega)).2, fun _ => M_cmp_ok (by omega) (by omega) a3 c3 a1 c1 ?_⟩
            rw [cmT_eq h hkn hb']
            exact ⟨fun w x ex => nx x ex _ (by rw [bO_old b e w]), fun w x ex => nx x ex _ (by rw [bO_up b e w]; rfl)⟩
      · rw [ho2 j j1 j2 j3] at hk
        exact ⟨fun w => absurd w (by decide), fun _ => hk _⟩
    · rw [bR1 (by omega), ltn k hk32 hfn]
      have nx : ∀ x, x = nI k + 1 → ∀ c, ((c = 0 ∧ ∀ j, j < k + 1 → bitS p j = true → j < n) ∨ (c = 1 ∧ ∃ j, j < 32 ∧ bitS p j = true ∧ ¬ j < n)) → ih x c := fun x ex c hc => by
        rw [nI_1] at ex
        refine hs _ _ ⟨k + 1, ex, by omega, hc⟩ ?_
        show 32 - x.toNatClampNeg < 32 - (nI k).toNatClampNeg
        rw [ex, nI_clamp (by omega), nI_clamp (by omega)]; omega
      have st : (bitS p k = true → k < n) → ((c2 = 0 ∧ ∀ j, j < k + 1 → bitS p j = true → j < n) ∨ (c2 = 1 ∧ ∃ j, j < 32 ∧ bitS p j = true ∧ ¬ j < n)) := fun hb => by
        rcases hst with ⟨q, hall⟩ | q
        · refine Or.inl ⟨q, fun j hj => ?_⟩
          rcases Nat.lt_or_ge j k with w | w
          · exact hall j w
          · have : j = k := by omega
            rw [this]; exact hb
        · exact Or.inr q
      exact ⟨fun b x ex => nx x ex _ (st fun w => absurd w b), fun b => ⟨fun w x ex => nx x ex _ (st fun _ => w), fun w x ex => nx x ex _ (Or.inr ⟨rfl, k, by omega, b, w⟩)⟩⟩
end Fa
