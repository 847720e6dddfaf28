section Ex
variable {n : Nat} {zs : Nat → Nat} {made funs : Int32} {kept sizes qsize qrows : Nat → Int32}
theorem tri {a b c X Y : Prop} (h1 : ¬ (a ∧ b ∧ c) → X) (h2 : a → b → c → Y) : (¬ a → X) ∧ (a → ((¬ b → X) ∧ (b → ((¬ c → X) ∧ (c → Y))))) :=
  ⟨fun q => h1 fun w => q w.1, fun qa => ⟨fun q => h1 fun w => q w.2.1, fun qb => ⟨fun q => h1 fun w => q w.2.2, fun qc => h2 qa qb qc⟩⟩⟩
theorem M_leaf {P : Prop} {rows t power : Nat → Int32} {f i c : Nat} {cI : Int32} {ih : Int32 → (Nat → Int32) → Prop} (hc : c < 4) (hcI : cI = nI c) (hb : 70 * f + 7 * i + 7 ≤ 5600) (et : eqp 7 (fun j => rows (70 * f + 7 * i + j)) t) (h0 : t 0 = 0) (h1 : t 1 = 0) (h2 : t 2 = eA c) (h3 : t 3 = eB c) (h4 : t 4 = eD c)
    (kn : (∀ c, ¬ okE t c) → P) (kc : ∀ c, okE t c → ∀ x, x = nI (i + 1) → ih x (upd power c (t 5))) :
    wp_M_at rows (nI f) (nI i) 6 (fun r57 => (¬ r57 = 1 → P) ∧ (r57 = 1 → (wp_M_at rows (nI f) (nI i) 5 (fun r60 => wp_M_in (r60.toInt64) (-99) 99 (fun r62 => (¬ r62 = 0 → (wp_M_at rows (nI f) (nI i) 5 (fun r65 => vp_in cI 5 ∧ (∀ power_67 : (Nat → Int32), power_67 = upd power cI.toNatClampNeg r65 → (∀ x68 : Int32, x68 = nI i + 1 → (ih x68 power_67)))))) ∧ (r62 = 0 → P)))))) := by
  subst hcI
  have t5 := et 5 (by omega)
  have t6 := et 6 (by omega)
  dsimp only at t5 t6
  have uq : ∀ d, okE t d → d = c := by
    rintro d ⟨b1, -, -, -, -, -, b2, b3, b4⟩
    have e2 := b2.symm.trans h2
    have e3 := b3.symm.trans h3
    have e4 := b4.symm.trans h4
    clear b2 b3 b4 h2 h3 h4
    rcases (show c = 0 ∨ c = 1 ∨ c = 2 ∨ c = 3 by omega) with q | q | q | q <;> rcases (show d = 0 ∨ d = 1 ∨ d = 2 ∨ d = 3 by omega) with w | w | w | w <;> subst q <;> subst w <;> first | rfl | exact absurd e2 (by decide) | exact absurd e3 (by decide) | exact absurd e4 (by decide)
  refine M_at_ok (j := 6) (by omega) ⟨fun q => kn fun d w => q (t6.trans w.2.1), fun q6 => M_at_ok (j := 5) (by omega) (M_in_ok (fun a b => ⟨fun _ => M_at_ok (j := 5) (by omega) ⟨vp_in_nI (by omega) (by omega), fun y ey x ex => ?_⟩, fun w => absurd w (by decide)⟩) (fun a => ⟨fun w => absurd rfl w, fun _ => kn fun d w => a ?_⟩))⟩
  · rw [n99.1, l_of_i, t5] at a
    rw [n99.2, l_of_i, t5] at b
    rw [nI_1] at ex
    rw [nI_clamp (by omega), t5] at ey
    rw [ey]
    exact kc c ⟨hc, t6.symm.trans q6, a, b, h0, h1, h2, h3, h4⟩ x ex
  · rw [n99.1, n99.2, l_of_i, t5]; exact ⟨w.2.2.1, w.2.2.2.1⟩
theorem M_tree {post : Int32 → Int32 → Int32 → Int32 → Int32 → Int64 → Int64 → (Nat → Int32) → (Nat → Int32) → (Nat → Int32) → (Nat → Int32) → (Nat → Int32) → Prop} {code mk gr : Int32} {up down : Int64} {size rows work xx power t : Nat → Int32} {f i : Nat} {ih : Int32 → (Nat → Int32) → Prop} (hb : 70 * f + 7 * i + 7 ≤ 5600) (et : eqp 7 (fun j => rows (70 * f + 7 * i + j)) t)
    (kn : (∀ c, ¬ okE t c) → post (-1) code funs mk gr up down size rows work xx power) (kc : ∀ c, okE t c → ∀ x, x = nI (i + 1) → ih x (upd power c (t 5))) :
    (wp_M_at rows (nI f) (nI i) 0 (fun r39 => (¬ r39 = 0 → (wj_M_exponential_164 post code funs mk gr up down size rows work xx power)) ∧ (r39 = 0 → (wp_M_at rows (nI f) (nI i) 1 (fun r42 => (¬ r42 = 0 → (wj_M_exponential_164 post code funs mk gr up down size rows work xx power)) ∧ (r42 = 0 → (wp_M_at rows (nI f) (nI i) 2 (fun r45 => wp_M_at rows (nI f) (nI i) 3 (fun r47 => wp_M_at rows (nI f) (nI i) 4 (fun r49 => (¬ r45 = 2 → (wj_M_exponential_110 r45 post code funs mk gr up down size rows work xx power r47 r49 (nI f) (nI i) ih)) ∧ (r45 = 2 → ((¬ r47 = 0 → (wj_M_exponential_110 r45 post code funs mk gr up down size rows work xx power r47 r49 (nI f) (nI i) ih)) ∧ (r47 = 0 → ((¬ r49 = 0 → (wj_M_exponential_110 r45 post code funs mk gr up down size rows work xx power r47 r49 (nI f) (nI i) ih)) ∧ (r49 = 0 → (wj_M_exponential_110_2 r45 rows (nI f) (nI i) post code funs mk gr up down size work xx power ih r47 r49)))))))))))))))) := by
  have t0 := et 0 (by omega)
  have t1 := et 1 (by omega)
  have t2 := et 2 (by omega)
  have t3 := et 3 (by omega)
  have t4 := et 4 (by omega)
  dsimp only at t0 t1 t2 t3 t4
  refine M_at_ok (j := 0) (by omega) ?_
  rw [t0]
  refine ⟨fun q => kn fun c w => q w.2.2.2.2.1, fun q0 => M_at_ok (j := 1) (by omega) ?_⟩
  rw [t1]
  refine ⟨fun q => kn fun c w => q w.2.2.2.2.2.1, fun q1 => M_at_ok (j := 2) (by omega) (M_at_ok (j := 3) (by omega) (M_at_ok (j := 4) (by omega) ?_))⟩
  rw [t2, t3, t4]
  have L3 : t 2 = 0 → t 3 = 0 → t 4 = 1 → wj_M_exponential_164_2 rows (nI f) (nI i) post code funs mk gr up down size work xx power ih := fun a b c => by
    unfold wj_M_exponential_164_2
    exact M_leaf (c := 3) (by omega) rfl hb et q0 q1 a b c kn kc
  have L2 : t 2 = 0 → t 3 = 1 → t 4 = 0 → wj_M_exponential_164_3 rows (nI f) (nI i) post code funs mk gr up down size work xx power ih := fun a b c => by
    unfold wj_M_exponential_164_3
    exact M_leaf (c := 2) (by omega) rfl hb et q0 q1 a b c kn kc
  have L1 : t 2 = 1 → t 3 = 0 → t 4 = 0 → wj_M_exponential_164_4 rows (nI f) (nI i) post code funs mk gr up down size work xx power ih := fun a b c => by
    unfold wj_M_exponential_164_4
    exact M_leaf (c := 1) (by omega) rfl hb et q0 q1 a b c kn kc
  have L0 : t 2 = 2 → t 3 = 0 → t 4 = 0 → wj_M_exponential_164_5 rows (nI f) (nI i) post code funs mk gr up down size work xx power ih := fun a b c => by
    unfold wj_M_exponential_164_5
    exact M_leaf (c := 0) (by omega) rfl hb et q0 q1 a b c kn kc
  have D2 : t 2 = 0 → t 3 = 1 → t 4 = 0 → wj_M_exponential_146_2 (t 2) rows (nI f) (nI i) post code funs mk gr up down size work xx power ih (t 3) (t 4) := fun a b c => by
    unfold wj_M_exponential_146_2
    exact tri (fun _ => L2 a b c) L3
  have D1 : t 2 = 1 → t 3 = 0 → t 4 = 0 → wj_M_exponential_128_2 (t 2) rows (nI f) (nI i) post code funs mk gr up down size work xx power ih (t 3) (t 4) := fun a b c => by
    unfold wj_M_exponential_128_2 wj_M_exponential_146_3
    exact tri (fun _ => tri (fun _ => L1 a b c) L3) D2
  unfold wj_M_exponential_110 wj_M_exponential_110_2 wj_M_exponential_128 wj_M_exponential_128_3 wj_M_exponential_146 wj_M_exponential_146_4 wj_M_exponential_164 wj_M_exponential_201
  refine tri (fun n0 => tri (fun n1 => tri (fun n2 => tri (fun n3 => kn ?_) L3) D2) D1) (fun a b c => tri (fun _ => tri (fun _ => tri (fun _ => L0 a b c) L3) D2) D1)
  rintro c ⟨hc, -, -, -, a0, a1, a2, a3, a4⟩
  rcases (show c = 0 ∨ c = 1 ∨ c = 2 ∨ c = 3 by omega) with q | q | q | q <;> subst q
  · exact n0 ⟨a2, a3, a4⟩
  · exact n1 ⟨a2, a3, a4⟩
  · exact n2 ⟨a2, a3, a4⟩
  · exact n3 ⟨a2, a3, a4⟩
theorem exp_fresh (h : InvK n zs made kept sizes funs qsize qrows) {f i : Nat} (hf : f < n) (hi : i < zs f) {c : Nat} (ho : okE (rowT kept f i) c) : ∀ k, k < i → ¬ okE (rowT kept f k) c := by
  intro k hk h2
  obtain ⟨a1, a2, a3, a4, a5⟩ := h.2.2.2 f hf
  have r1 := a5.1 k i hk hi
  have r0 : rank (fun j => kept (70 * f + j)) (7 * k) (fun j => kept (70 * f + j)) (7 * i) = 0 := by
    rw [rank_eq0]
    intro j hj
    show kept (70 * f + (7 * k + j)) = kept (70 * f + (7 * i + j))
    rw [show 70 * f + (7 * k + j) = 70 * f + 7 * k + j by omega, show 70 * f + (7 * i + j) = 70 * f + 7 * i + j by omega]
    show rowT kept f k j = rowT kept f i j
    obtain ⟨-, -, -, -, u0, u1, u2, u3, u4⟩ := ho
    obtain ⟨-, -, -, -, v0, v1, v2, v3, v4⟩ := h2
    rcases (show j = 0 ∨ j = 1 ∨ j = 2 ∨ j = 3 ∨ j = 4 by omega) with q | q | q | q | q <;> subst q
    · exact v0.trans u0.symm
    · exact v1.trans u1.symm
    · exact v2.trans u2.symm
    · exact v3.trans u3.symm
    · exact v4.trans u4.symm
  rw [r0] at r1
  exact absurd r1 (by decide)
end Ex
