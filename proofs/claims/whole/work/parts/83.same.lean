/-! same, fastest. -/
section Rd4
variable {n : Nat} {zs : Nat → Nat} {made funs : Int32} {kept sizes qsize qrows : Nat → Int32}
theorem same_read (h : InvK n zs made kept sizes funs qsize qrows) (p q : Int32) : ∃ o : Int32 ⊕ Int32, (∀ e, o = .inl e → e = 1) ∧
    (∀ post postx, RG o eI post postx → wp_G_same made kept sizes p q post postx) ∧ (∀ code post, RQ o post → wp_M_same code funs qsize qrows p q post) := by
  have hn := h.1
  have hm := h.2.1
  have hfn := h.2.2.1
  by_cases hp : isH p n ∧ isH q n
  · obtain ⟨⟨f, hf, rfl⟩, ⟨g, hg, rfl⟩⟩ := hp
    obtain ⟨a1, a2, a3, a4, a5⟩ := h.2.2.2 f hf
    obtain ⟨b1, b2, b3, b4, b5⟩ := h.2.2.2 g hg
    obtain ⟨v, hv1, hv0, hvz⟩ : ∃ v : Int32, (zs f = zs g → (∀ j, j < 7 * zs f → kept (70 * f + j) = kept (70 * g + j)) → v = 1) ∧ (∀ j, j < 7 * zs f → ¬ kept (70 * f + j) = kept (70 * g + j) → v = 0) ∧ (zs f ≠ zs g → v = 0) := by
      by_cases c : zs f = zs g ∧ ∀ j, j < 7 * zs f → kept (70 * f + j) = kept (70 * g + j)
      · exact ⟨1, fun _ _ => rfl, fun j hj w => absurd (c.2 j hj) w, fun w => absurd c.1 w⟩
      · exact ⟨0, fun w1 w2 => absurd ⟨w1, w2⟩ c, fun _ _ _ => rfl, fun _ => rfl⟩
    have ez : nI (zs f) = nI (zs g) ↔ zs f = zs g := nI_eq (by omega) (by omega)
    refine ⟨.inr v, fun e q => (by cases q), fun post postx hk => ?_, fun code post hk => ?_⟩
    · have hk' : post v := hk
      unfold wp_G_same
      refine G_reqF_ok hn hm (fun _ => G_reqF_ok hn hm (fun _ => ⟨vp_in_nI (by omega) (by omega), vp_in_nI (by omega) (by omega), ?_⟩) (fun w => absurd ⟨g, hg, rfl⟩ w)) (fun w => absurd ⟨f, hf, rfl⟩ w)
      rw [nI_clamp (by omega), nI_clamp (by omega), a2, b2, ez]
      refine ⟨fun w => G_rowOf_ok (i := 0) (G_rowOf_ok (i := 0) ?_), fun w => by rw [hvz w] at hk'; exact hk'⟩
      refine lpW1_ex _ (fun i => ∃ e : Nat, i = nI e ∧ e ≤ 7 * zs f ∧ ∀ j, j < e → kept (70 * f + j) = kept (70 * g + j)) (fun i => 7 * zs f - i.toNatClampNeg) ?_ _ ⟨0, nI_0.symm, by omega, fun j hj => absurd hj (Nat.not_lt_zero j)⟩
      rintro ih i ⟨e, rfl, he, hc⟩ hs
      unfold wb_G_same_43
      have e7 : nI (zs f) * 7 = nI (7 * zs f) := by rw [Nat.mul_comm 7 (zs f)]; exact pk_mul (zs f) 7
      rw [Nat.mul_zero, Nat.add_zero, Nat.add_zero, nI_clamp (by omega), a2, e7, nI_leI (by omega) (by omega), nI_add, nI_add, nI_clamp (by omega), nI_clamp (by omega)]
      refine ⟨vp_in_nI (by omega) (by omega), fun c => ?_, fun c => ⟨vp_in_nI (by omega) (by omega), vp_in_nI (by omega) (by omega), fun c2 x ex => ?_, fun c2 => ?_⟩⟩
      · rw [hv1 w fun j hj => hc j (by omega)] at hk'; exact hk'
      · rw [nI_1] at ex
        refine hs _ ⟨e + 1, ex, by omega, fun j hj => ?_⟩ ?_
        · rcases Nat.lt_or_ge j e with q | q
          · exact hc j q
          · have : j = e := by omega
            rw [this]; exact c2
        · show 7 * zs f - x.toNatClampNeg < 7 * zs f - (nI e).toNatClampNeg
          rw [ex, nI_clamp (by omega), nI_clamp (by omega)]; omega
      · rw [hv0 e (by omega) c2] at hk'; exact hk'
    · have hk' : post v 0 := hk
      unfold wp_M_same wj_M_same_22
      refine M_isF_ok hn hfn (fun _ => ⟨fun w => absurd w (by decide), fun _ => M_isF_ok hn hfn (fun _ => ⟨fun w => absurd w (by decide), fun _ => ⟨vp_in_nI (by omega) (by omega), vp_in_nI (by omega) (by omega), ?_⟩⟩) (fun w => absurd ⟨g, hg, rfl⟩ w)⟩) (fun w => absurd ⟨f, hf, rfl⟩ w)
      rw [nI_clamp (by omega), nI_clamp (by omega), a3, b3, ez]
      refine ⟨fun w => ?_, fun w => by rw [hvz w] at hk'; exact hk'⟩
      refine lpW1_ex _ (fun i => ∃ e : Nat, i = nI e ∧ e ≤ 7 * zs f ∧ ∀ j, j < e → kept (70 * f + j) = kept (70 * g + j)) (fun i => 7 * zs f - i.toNatClampNeg) ?_ _ ⟨0, nI_0.symm, by omega, fun j hj => absurd hj (Nat.not_lt_zero j)⟩
      rintro ih i ⟨e, rfl, he, hc⟩ hs
      unfold wb_M_same_51
      have e7 : 7 * nI (zs f) = nI (7 * zs f) := pk_mul 7 (zs f)
      have ef : (70 : Int32) * nI f = nI (70 * f) := pk_mul 70 f
      have eg : (70 : Int32) * nI g = nI (70 * g) := pk_mul 70 g
      rw [nI_clamp (show f < 2147483648 by omega), a3, e7, ef, eg, nI_leI (by omega) (by omega), nI_add, nI_add, nI_clamp (by omega), nI_clamp (by omega)]
      refine ⟨vp_in_nI (by omega) (by omega), fun c => ?_, fun c => ⟨vp_in_nI (by omega) (by omega), vp_in_nI (by omega) (by omega), fun c2 x ex => ?_, fun c2 => ?_⟩⟩
      · rw [hv1 w fun j hj => hc j (by omega)] at hk'; exact hk'
      · rw [← a4 e (by omega), ← b4 e (by omega)] at c2
        rw [nI_1] at ex
        refine hs _ ⟨e + 1, ex, by omega, fun j hj => ?_⟩ ?_
        · rcases Nat.lt_or_ge j e with q | q
          · exact hc j q
          · have : j = e := by omega
            rw [this]; exact c2
        · show 7 * zs f - x.toNatClampNeg < 7 * zs f - (nI e).toNatClampNeg
          rw [ex, nI_clamp (by omega), nI_clamp (by omega)]; omega
      · rw [← a4 e (by omega), ← b4 e (by omega)] at c2
        rw [hv0 e (by omega) c2] at hk'; exact hk'
  · refine ⟨.inl 1, fun e q => (by cases q; rfl), fun post postx hk => ?_, fun code post hk => ?_⟩
    · unfold wp_G_same
      exact G_reqF_ok hn hm (fun w1 => G_reqF_ok hn hm (fun w2 => absurd ⟨w1, w2⟩ hp) (fun _ => hk)) (fun _ => hk)
    · unfold wp_M_same
      exact M_isF_ok hn hfn (fun w1 => ⟨fun w => absurd w (by decide), fun _ => M_isF_ok hn hfn (fun w2 => absurd ⟨w1, w2⟩ hp) (fun _ => ⟨fun _ => hk _, fun w => absurd rfl w⟩)⟩) (fun _ => ⟨fun _ => hk _, fun w => absurd rfl w⟩)
/-- bit k of a set -/
def bitS (p : Int32) (k : Nat) : Bool := p.toBitVec.getLsbD k
theorem and1 (x : BitVec 32) : x &&& 1#32 = if x.getLsbD 0 then 1#32 else 0#32 := by
  apply BitVec.eq_of_getLsbD_eq
  intro i hi
  rw [BitVec.getLsbD_and, BitVec.getLsbD_one]
  rcases Nat.eq_zero_or_pos i with q | q
  · subst q
    cases x.getLsbD 0 <;> rfl
  · have : decide (i = 0) = false := by simp; omega
    rw [this]
    cases hx : x.getLsbD 0 <;> simp [hx, BitVec.getLsbD_one] <;> omega
theorem bit_if (b : Bool) : (if b then (1 : Int32) else 0).toBitVec = if b then 1#32 else 0#32 := by cases b <;> rfl
theorem bit_R (p : Int32) {k : Nat} (hk : k < 32) : ((p >>> (nI k &&& 31)) &&& 1) = if bitS p k then 1 else 0 := by
  have e : ∀ k, k < 32 → ((nI k &&& 31).toBitVec.smod 32).toNat = k := by decide
  apply Int32.toBitVec_inj.mp
  rw [Int32.toBitVec_and, Int32.toBitVec_shiftRight, bit_if]
  show (p.toBitVec.sshiftRight' ((nI k &&& 31).toBitVec.smod 32)) &&& 1#32 = _
  rw [and1, BitVec.sshiftRight_eq', e k hk, BitVec.getLsbD_sshiftRight]
  unfold bitS
  simp [hk]
theorem bit_L (p : Int32) {k : Nat} (hk : k < 32) : ((p.toUInt32 >>> ((nI k).toUInt32 &&& Int32.toUInt32 31)).toInt32 &&& 1) = if bitS p k then 1 else 0 := by
  have e : ∀ k, k < 32 → (((nI k).toUInt32 &&& Int32.toUInt32 31).toBitVec % 32).toNat = k := by decide
  apply Int32.toBitVec_inj.mp
  rw [Int32.toBitVec_and, bit_if]
  show (p.toUInt32 >>> ((nI k).toUInt32 &&& Int32.toUInt32 31)).toBitVec &&& 1#32 = _
  rw [UInt32.toBitVec_shiftRight]
  show (p.toBitVec >>> (((nI k).toUInt32 &&& Int32.toUInt32 31).toBitVec % 32)) &&& 1#32 = _
  rw [and1, BitVec.ushiftRight_eq', e k hk, BitVec.getLsbD_ushiftRight]
  unfold bitS
  simp
end Rd4
