/-! exponential, on both sides. -/
def eA (c : Nat) : Int32 := if c = 0 then 2 else if c = 1 then 1 else 0
def eB (c : Nat) : Int32 := if c = 2 then 1 else 0
def eD (c : Nat) : Int32 := if c = 3 then 1 else 0
/-- e to the power of this term has a whole exponent in cell c -/
abbrev okE (t : Nat → Int32) (c : Nat) : Prop := c < 4 ∧ t 6 = 1 ∧ -99 ≤ (t 5).toInt ∧ (t 5).toInt ≤ 99 ∧ t 0 = 0 ∧ t 1 = 0 ∧ t 2 = eA c ∧ t 3 = eB c ∧ t 4 = eD c
theorem okE_uniq {t : Nat → Int32} {c d : Nat} (h : okE t c) (h' : okE t d) : c = d := by
  obtain ⟨a1, -, -, -, -, -, a2, a3, a4⟩ := h
  obtain ⟨b1, -, -, -, -, -, b2, b3, b4⟩ := h'
  have e2 := a2.symm.trans b2
  have e3 := a3.symm.trans b3
  have e4 := a4.symm.trans b4
  clear a2 a3 a4 b2 b3 b4
  rcases (show c = 0 ∨ c = 1 ∨ c = 2 ∨ c = 3 by omega) with q | q | q | q <;> rcases (show d = 0 ∨ d = 1 ∨ d = 2 ∨ d = 3 by omega) with w | w | w | w <;> subst q <;> subst w <;> first | rfl | exact absurd e2 (by decide) | exact absurd e3 (by decide) | exact absurd e4 (by decide)
def pwr (g : Nat → Nat → Int32) : Nat → Nat → Int32
  | 0, _ => 0
  | i + 1, c => if okE (g i) c then g i 5 else pwr g i c
def pT (p : Nat → Int32) : Nat → Int32 := fun j => if j < 5 then p j else 1
theorem pwr_0 {g : Nat → Nat → Int32} {c : Nat} : ∀ i, (∀ k, k < i → ¬ okE (g k) c) → pwr g i c = 0
  | 0, _ => rfl
  | i + 1, h => by
    unfold pwr
    rw [if_neg (h i (by omega))]
    exact pwr_0 i fun k hk => h k (by omega)
theorem pwr_wf {g : Nat → Nat → Int32} {c : Nat} : ∀ i, wfe (pwr g i c)
  | 0 => by unfold pwr wfe; decide
  | i + 1 => by
    unfold pwr
    split
    · next q => exact ⟨q.2.2.1, q.2.2.2.1⟩
    · exact pwr_wf i
theorem pT_wf {g : Nat → Nat → Int32} {i : Nat} : wfr (pT (pwr g i)) 0 := by
  have e5 : pT (pwr g i) 5 = 1 := rfl
  have e6 : pT (pwr g i) 6 = 1 := rfl
  refine wfr_of (fun j hj => ?_) (by rw [e5]; decide) (by rw [e5]; decide) (by rw [e6]; decide) (by rw [e6]; decide)
  unfold pT
  rw [if_pos hj]; exact pwr_wf i
theorem pT_0 {g : Nat → Nat → Int32} : eqp 7 oneT (pT (pwr g 0)) := fun j _ => by
  unfold pT oneT pwr
  rfl
/-- raising by the next row -/
theorem pT_rais {g : Nat → Nat → Int32} {i c : Nat} (h : okE (g i) c) (hf : ∀ k, k < i → ¬ okE (g k) c) : rais c (g i 5).toInt (some (pT (pwr g i))) = some (pT (pwr g (i + 1))) := by
  have z : pT (pwr g i) c = 0 := by unfold pT; rw [if_pos (by have := h.1; omega)]; exact pwr_0 i hf
  have e : (g i 5).toInt = (pT (pwr g i) c).toInt + (g i 5).toInt := by rw [z, i_0, Int.zero_add]
  show (if _ then some _ else none) = _
  rw [← e, if_pos ⟨h.2.2.1, h.2.2.2.1⟩]
  congr 1
  funext j
  unfold upd pT
  have := h.1
  by_cases q : j = c
  · rw [if_pos q, q, if_pos (by omega), Int32.ofInt_toInt]
    show _ = (if okE (g i) c then g i 5 else pwr g i c)
    rw [if_pos h]
  · rw [if_neg q]
    by_cases q2 : j < 5
    · rw [if_pos q2, if_pos q2]
      show _ = (if okE (g i) j then g i 5 else pwr g i j)
      rw [if_neg (fun w => q (okE_uniq w h))]
    · rw [if_neg q2, if_neg q2]
theorem G_holds_ok {kept t : Nat → Int32} {b : Nat} {p1 p2 p3 : Int32} {post : Int32 → Prop} (hb : b + 7 ≤ 5600) (et : eqp 7 (fun j => kept (b + j)) t) (k1 : t 0 = 0 → t 1 = 0 → t 2 = p1 → t 3 = p2 → t 4 = p3 → post 1) (k0 : ¬ (t 0 = 0 ∧ t 1 = 0 ∧ t 2 = p1 ∧ t 3 = p2 ∧ t 4 = p3) → post 0) : wp_G_holds kept (nI b) p1 p2 p3 post := by
  unfold wp_G_holds
  have t0 := et 0 (by omega)
  have t1 := et 1 (by omega)
  have t2 := et 2 (by omega)
  have t3 := et 3 (by omega)
  have t4 := et 4 (by omega)
  dsimp only at t0 t1 t2 t3 t4
  rw [show nI b + 0 = nI (b + 0) from nI_add _ 0, show nI b + 1 = nI (b + 1) from nI_add _ 1, show nI b + 2 = nI (b + 2) from nI_add _ 2, show nI b + 3 = nI (b + 3) from nI_add _ 3, show nI b + 4 = nI (b + 4) from nI_add _ 4, nI_clamp (by omega), nI_clamp (by omega), nI_clamp (by omega), nI_clamp (by omega), nI_clamp (by omega), t0, t1, t2, t3, t4]
  exact ⟨vp_in_nI (by omega) (by omega), fun q => k0 fun w => q w.1, fun q0 => ⟨vp_in_nI (by omega) (by omega), fun q => k0 fun w => q w.2.1, fun q1 => ⟨vp_in_nI (by omega) (by omega), fun q => k0 fun w => q w.2.2.1, fun q2 => ⟨vp_in_nI (by omega) (by omega), fun q => k0 fun w => q w.2.2.2.1, fun q3 => ⟨vp_in_nI (by omega) (by omega), fun q => k0 fun w => q w.2.2.2.2, fun q4 => k1 q0 q1 q2 q3 q4⟩⟩⟩⟩⟩
theorem G_cell_ok {kept t : Nat → Int32} {b : Nat} {post : Int32 → Prop} (hb : b + 7 ≤ 5600) (et : eqp 7 (fun j => kept (b + j)) t) (kc : ∀ c, okE t c → post (nI c)) (kn : (∀ c, ¬ okE t c) → post (-1)) : wp_G_cellOfExponential kept (nI b) post := by
  unfold wp_G_cellOfExponential
  have t5 := et 5 (by omega)
  have t6 := et 6 (by omega)
  dsimp only at t5 t6
  rw [show nI b + 5 = nI (b + 5) from nI_add _ 5, show nI b + 6 = nI (b + 6) from nI_add _ 6, nI_clamp (by omega), nI_clamp (by omega), t5, t6]
  refine ⟨vp_in_nI (by omega) (by omega), fun x ex => ⟨vp_in_nI (by omega) (by omega), fun q => kn fun c w => q w.2.1, fun q6 => ?_⟩⟩
  have c1 : x < -99 ↔ (t 5).toInt < -99 := by rw [ex, Int32.lt_iff_toInt_lt]; rfl
  have c2 : x ≤ 99 ↔ (t 5).toInt ≤ 99 := by rw [ex, Int32.le_iff_toInt_le]; rfl
  rw [c1, c2]
  refine ⟨fun q => kn fun c w => by have := w.2.2.1; omega, fun q1 => ⟨fun q2 => ?_, fun q => kn fun c w => by have := w.2.2.2.1; omega⟩⟩
  refine G_holds_ok hb et (fun a0 a1 a2 a3 a4 => ⟨fun w => absurd w (by decide), fun _ => kc 0 ⟨by omega, q6, by omega, q2, a0, a1, a2, a3, a4⟩⟩) (fun n0 => ⟨fun _ => ?_, fun w => absurd rfl w⟩)
  refine G_holds_ok hb et (fun a0 a1 a2 a3 a4 => ⟨fun w => absurd w (by decide), fun _ => kc 1 ⟨by omega, q6, by omega, q2, a0, a1, a2, a3, a4⟩⟩) (fun n1 => ⟨fun _ => ?_, fun w => absurd rfl w⟩)
  refine G_holds_ok hb et (fun a0 a1 a2 a3 a4 => ⟨fun w => absurd w (by decide), fun _ => kc 2 ⟨by omega, q6, by omega, q2, a0, a1, a2, a3, a4⟩⟩) (fun n2 => ⟨fun _ => ?_, fun w => absurd rfl w⟩)
  refine G_holds_ok hb et (fun a0 a1 a2 a3 a4 => ⟨fun w => absurd w (by decide), fun _ => kc 3 ⟨by omega, q6, by omega, q2, a0, a1, a2, a3, a4⟩⟩) (fun n3 => ⟨fun _ => kn ?_, fun w => absurd rfl w⟩)
  rintro c ⟨hc, -, -, -, a0, a1, a2, a3, a4⟩
  rcases (show c = 0 ∨ c = 1 ∨ c = 2 ∨ c = 3 by omega) with q | q | q | q <;> subst q
  · exact n0 ⟨a0, a1, a2, a3, a4⟩
  · exact n1 ⟨a0, a1, a2, a3, a4⟩
  · exact n2 ⟨a0, a1, a2, a3, a4⟩
  · exact n3 ⟨a0, a1, a2, a3, a4⟩
