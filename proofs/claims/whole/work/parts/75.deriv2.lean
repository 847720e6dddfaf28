/-! derive: the reference's half, and both. -/
section De
variable {n : Nat} {zs : Nat → Nat} {made funs : Int32} {kept sizes qsize qrows : Nat → Int32}
theorem M_sl_put {s : Sst} {c w : Nat} {mk : Int32} {up down x : Int64} {wk xx t : Nat → Int32} {v : Int32} {ih : Int32 → Int32 → Int32 → Int64 → Int64 → (Nat → Int32) → (Nat → Int32) → Prop} (hR : RM s c mk 0 wk) (hc : c < 100) (ht : wfr t 0) (he : ∀ j, j < 5 → (xx j).toInt = (t j).toInt + sL w j) (h5 : xx 5 = t 5) (h6 : xx 6 = t 6) (hx : x.toInt = sF t w) (h0 : sF t w ≠ 0) (hb : (sF t w).natAbs ≤ 1000000)
    (k : ∀ mk' gr' up' down' wk' xx', RM (putD t w s) (c + 1) mk' gr' wk' → wj_M_derive_162 v ih mk' gr' up' down' wk' xx') :
    wp_M_scale 0 up down xx x 1 (fun g u d y => wp_M_put mk g u d wk y (fun m2 g2 u2 d2 w2 => wj_M_derive_162 v ih m2 g2 u2 d2 w2 y)) := by
  obtain ⟨w1, w2, w3, w4, w5⟩ := wfr0 ht
  have hp : putD t w s = putS s (mkT t (sF t w) 1 (sL w)) := by unfold putD; rw [if_neg h0]
  rw [hp] at k
  obtain ⟨m1, m2⟩ := mkT_rel (a := sF t w) (b := 1) (dl := sL w) ht he h5 h6 h0 (by decide)
  refine M_scale_ok (by rw [h5]; exact w2) (by rw [h5]; exact w3) (by rw [h6]; exact w4) (by rw [h6]; exact w5) (by rw [hx]; exact hb) (by rw [l_1]; decide) (by rw [l_1]; decide) ?_ ?_
  · rw [h5, h6, hx, l_1]
    intro c2 u' d' y
    exact RM_put hR hc (Or.inl ⟨m1 c2, Or.inl rfl⟩) fun a b c d e hR' => k _ _ _ _ _ _ hR'
  · rw [h5, h6, hx, l_1]
    intro c2 u' d'
    rcases m2 c2 _ rfl with ⟨q1, q2⟩ | ⟨t', q1, q2, q3⟩
    · exact RM_put hR hc (Or.inl ⟨q1, Or.inr ⟨rfl, q2⟩⟩) fun a b c d e hR' => k _ _ _ _ _ _ hR'
    · exact RM_put hR hc (Or.inr ⟨t', q1, rfl, q2, q3⟩) fun a b c d e hR' => k _ _ _ _ _ _ hR'
theorem M_sl4 {s : Sst} {c w : Nat} {mk : Int32} {up down x : Int64} {wk xx t : Nat → Int32} {ih : Int32 → Int32 → Int32 → Int64 → Int64 → (Nat → Int32) → (Nat → Int32) → Prop} (hw : w < 5) (hR : RM s c mk 0 wk) (hc : c < 100) (ht : wfr t 0) (he : ∀ j, j < 4 → (xx j).toInt = (t j).toInt + sL w j) (h4 : xx 4 = t 4) (h5 : xx 5 = t 5) (h6 : xx 6 = t 6) (hx : x.toInt = sF t w) (h0 : sF t w ≠ 0) (hb : (sF t w).natAbs ≤ 1000000)
    (k : ∀ mk' gr' up' down' wk' xx', RM (putD t w s) (c + 1) mk' gr' wk' → wj_M_derive_162 (nI w) ih mk' gr' up' down' wk' xx') :
    (nI w ≤ 3 → wj_M_derive_149 xx 0 up down x mk wk (nI w) ih) ∧ (¬ nI w ≤ 3 → wj_M_derive_149_2 xx 0 up down x mk wk (nI w) ih) := by
  have c4 : (4 : Int32).toNatClampNeg = 4 := by decide
  have cw : nI w ≤ 3 ↔ w ≤ 3 := by
    have : (3 : Int32) = nI 3 := rfl
    rw [this]; exact nI_leI (by omega) (by omega)
  have w4 := (wfr0 ht).1 4 (by omega)
  unfold wfe at w4
  have i4 : vp_in (4 : Int32) 7 := pk_in 4 7 (by omega)
  have o1 : (1 : Int32).toInt = 1 := by decide
  rw [cw]
  refine ⟨fun q => ?_, fun q => ?_⟩
  · unfold wj_M_derive_149
    rw [c4]
    refine ⟨i4, fun y ey => M_sl_put hR hc ht (fun j hj => ?_) (by rw [ey, pk_un (by omega)]; exact h5) (by rw [ey, pk_un (by omega)]; exact h6) hx h0 hb k⟩
    rw [ey]
    by_cases z : j = 4
    · rw [z, pk_us, h4, i_sub (by rw [i_0]; omega) (by rw [i_0]; omega), i_0]
      unfold sL; rw [if_neg (by omega), if_neg (by omega), if_pos rfl, if_pos q]; omega
    · rw [pk_un z]; exact he j (by omega)
  · unfold wj_M_derive_149_2
    rw [c4]
    refine ⟨i4, fun y ey => M_sl_put hR hc ht (fun j hj => ?_) (by rw [ey, pk_un (by omega)]; exact h5) (by rw [ey, pk_un (by omega)]; exact h6) hx h0 hb k⟩
    rw [ey]
    by_cases z : j = 4
    · rw [z, pk_us, h4, i_sub (by rw [o1]; omega) (by rw [o1]; omega), o1]
      unfold sL; rw [if_neg (by omega), if_neg (by omega), if_pos rfl, if_neg q]; omega
    · rw [pk_un z]; exact he j (by omega)
theorem M_sl3 {s : Sst} {c w : Nat} {mk : Int32} {up down x : Int64} {wk xx t : Nat → Int32} {ih : Int32 → Int32 → Int32 → Int64 → Int64 → (Nat → Int32) → (Nat → Int32) → Prop} (hw : w < 5) (hR : RM s c mk 0 wk) (hc : c < 100) (ht : wfr t 0) (he : ∀ j, j < 3 → (xx j).toInt = (t j).toInt + sL w j) (h3 : ∀ j, 3 ≤ j → j < 7 → xx j = t j) (hx : x.toInt = sF t w) (h0 : sF t w ≠ 0) (hb : (sF t w).natAbs ≤ 1000000)
    (k : ∀ mk' gr' up' down' wk' xx', RM (putD t w s) (c + 1) mk' gr' wk' → wj_M_derive_162 (nI w) ih mk' gr' up' down' wk' xx') :
    vp_in 3 7 ∧ ((nI w ≤ 2 → wj_M_derive_130 xx (nI w) 0 up down x mk wk ih) ∧ (¬ nI w ≤ 2 → wj_M_derive_130_2 xx (nI w) 0 up down x mk wk ih)) := by
  have c3 : (3 : Int32).toNatClampNeg = 3 := by decide
  have cw : nI w ≤ 2 ↔ w ≤ 2 := by
    have : (2 : Int32) = nI 2 := rfl
    rw [this]; exact nI_leI (by omega) (by omega)
  have w4 := (wfr0 ht).1 3 (by omega)
  unfold wfe at w4
  have i3 : vp_in (3 : Int32) 7 := pk_in 3 7 (by omega)
  have i4 : vp_in (4 : Int32) 7 := pk_in 4 7 (by omega)
  have o1 : (1 : Int32).toInt = 1 := by decide
  have x3 := h3 3 (by omega) (by omega)
  rw [cw]
  refine ⟨i3, fun q => ?_, fun q => ?_⟩
  · unfold wj_M_derive_130
    rw [c3]
    refine ⟨i3, fun y ey => ⟨i4, M_sl4 hw hR hc ht (fun j hj => ?_) (by rw [ey, pk_un (by omega)]; exact h3 4 (by omega) (by omega)) (by rw [ey, pk_un (by omega)]; exact h3 5 (by omega) (by omega)) (by rw [ey, pk_un (by omega)]; exact h3 6 (by omega) (by omega)) hx h0 hb k⟩⟩
    rw [ey]
    by_cases z : j = 3
    · rw [z, pk_us, x3, i_sub (by rw [i_0]; omega) (by rw [i_0]; omega), i_0]
      unfold sL; rw [if_neg (by omega), if_pos rfl, if_pos q]; omega
    · rw [pk_un z]; exact he j (by omega)
  · unfold wj_M_derive_130_2
    rw [c3]
    refine ⟨i3, fun y ey => ⟨i4, M_sl4 hw hR hc ht (fun j hj => ?_) (by rw [ey, pk_un (by omega)]; exact h3 4 (by omega) (by omega)) (by rw [ey, pk_un (by omega)]; exact h3 5 (by omega) (by omega)) (by rw [ey, pk_un (by omega)]; exact h3 6 (by omega) (by omega)) hx h0 hb k⟩⟩
    rw [ey]
    by_cases z : j = 3
    · rw [z, pk_us, x3, i_sub (by rw [o1]; omega) (by rw [o1]; omega), o1]
      unfold sL; rw [if_neg (by omega), if_pos rfl, if_neg q]; omega
    · rw [pk_un z]; exact he j (by omega)
theorem M_sl2 {s : Sst} {c w : Nat} {mk : Int32} {up down x : Int64} {wk xx t : Nat → Int32} {ih : Int32 → Int32 → Int32 → Int64 → Int64 → (Nat → Int32) → (Nat → Int32) → Prop} (hw : w < 5) (hR : RM s c mk 0 wk) (hc : c < 100) (ht : wfr t 0) (h3 : eqp 7 xx t) (hx : x.toInt = sF t w) (h0 : sF t w ≠ 0) (hb : (sF t w).natAbs ≤ 1000000)
    (k : ∀ mk' gr' up' down' wk' xx', RM (putD t w s) (c + 1) mk' gr' wk' → wj_M_derive_162 (nI w) ih mk' gr' up' down' wk' xx') :
    vp_in 2 7 ∧ ((¬ nI w = 0 → ((¬ nI w = 1 → wj_M_derive_111 xx (nI w) 0 up down x mk wk ih) ∧ (nI w = 1 → wj_M_derive_111_2 xx (nI w) 0 up down x mk wk ih))) ∧ (nI w = 0 → wj_M_derive_111_3 xx (nI w) 0 up down x mk wk ih)) := by
  have c2 : (2 : Int32).toNatClampNeg = 2 := by decide
  have cw0 : nI w = 0 ↔ w = 0 := by
    have : (0 : Int32) = nI 0 := rfl
    rw [this]; exact nI_eq (by omega) (by omega)
  have cw1 : nI w = 1 ↔ w = 1 := by
    have : (1 : Int32) = nI 1 := rfl
    rw [this]; exact nI_eq (by omega) (by omega)
  have w4 := (wfr0 ht).1 2 (by omega)
  unfold wfe at w4
  have i2 : vp_in (2 : Int32) 7 := pk_in 2 7 (by omega)
  have o1 : (1 : Int32).toInt = 1 := by decide
  have om : (-1 : Int32).toInt = -1 := by decide
  have x2 := h3 2 (by omega)
  have lo : ∀ j, j < 2 → sL w j = 0 := fun j hj => by unfold sL; rw [if_neg (by omega), if_neg (by omega), if_neg (by omega)]
  rw [cw0, cw1]
  refine ⟨i2, fun q => ⟨fun q1 => ?_, fun q1 => ?_⟩, fun q => ?_⟩
  · unfold wj_M_derive_111
    rw [c2]
    refine ⟨i2, fun y ey => M_sl3 hw hR hc ht (fun j hj => ?_) (fun j j1 j2 => by rw [ey, pk_un (by omega)]; exact h3 j j2) hx h0 hb k⟩
    rw [ey]
    by_cases z : j = 2
    · rw [z, pk_us, x2, i_add (by rw [om]; omega) (by rw [om]; omega), om]
      unfold sL; rw [if_pos rfl, if_neg q, if_neg q1]
    · rw [pk_un z, h3 j (by omega), lo j (by omega)]; omega
  · unfold wj_M_derive_111_2
    rw [c2]
    refine ⟨i2, fun y ey => M_sl3 hw hR hc ht (fun j hj => ?_) (fun j j1 j2 => by rw [ey, pk_un (by omega)]; exact h3 j j2) hx h0 hb k⟩
    rw [ey]
    by_cases z : j = 2
    · rw [z, pk_us, x2, i_add (by rw [i_0]; omega) (by rw [i_0]; omega), i_0]
      unfold sL; rw [if_pos rfl, if_neg q, if_pos q1]
    · rw [pk_un z, h3 j (by omega), lo j (by omega)]; omega
  · unfold wj_M_derive_111_3
    rw [c2]
    refine ⟨i2, fun y ey => M_sl3 hw hR hc ht (fun j hj => ?_) (fun j j1 j2 => by rw [ey, pk_un (by omega)]; exact h3 j j2) hx h0 hb k⟩
    rw [ey]
    by_cases z : j = 2
    · rw [z, pk_us, x2, i_add (by rw [o1]; omega) (by rw [o1]; omega), o1]
      unfold sL; rw [if_pos rfl, if_pos q]
    · rw [pk_un z, h3 j (by omega), lo j (by omega)]; omega
end De
