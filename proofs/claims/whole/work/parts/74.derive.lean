/-! derive, on both sides. -/
def sF (t : Nat → Int32) (w : Nat) : Int := if w = 0 then 2 * (t 0).toInt else (t w).toInt
def sL (w : Nat) : Nat → Int := fun j => if j = 2 then (if w = 0 then 1 else if w = 1 then 0 else -1) else if j = 3 then (if w ≤ 2 then 0 else -1) else if j = 4 then (if w ≤ 3 then 0 else -1) else 0
def putD (t : Nat → Int32) (w : Nat) (s : Sst) : Sst := if sF t w = 0 then s else putS s (mkT t (sF t w) 1 (sL w))
def foldD (t : Nat → Int32) : Nat → Sst → Sst
  | 0, s => s
  | w + 1, s => putD t w (foldD t w s)
def foldE (kept : Nat → Int32) (f : Nat) : Nat → Sst → Sst
  | 0, s => s
  | i + 1, s => foldD (rowT kept f i) 5 (foldE kept f i s)
theorem foldD_none {t : Nat → Int32} {s : Sst} {w : Nat} (h : foldD t w s = none) : ∀ m, foldD t (w + m) s = none
  | 0 => h
  | m + 1 => by
    show putD t (w + m) (foldD t (w + m) s) = none
    rw [foldD_none h m]; unfold putD
    split
    · rfl
    · rfl
theorem rais_0 {c : Nat} {o : Option (Nat → Int32)} (h : ∀ t, o = some t → wfe (t c)) : rais c 0 o = o := by
  match o, h with
  | none, _ => rfl
  | some t, h =>
    have w := h t rfl
    unfold wfe at w
    show (if _ then some _ else none) = _
    rw [Int.add_zero, if_pos w]
    congr 1
    funext j
    unfold upd
    by_cases q : j = c
    · rw [if_pos q, q, Int32.ofInt_toInt]
    · rw [if_neg q]
theorem mulN_low {a b : Int} {t t' : Nat → Int32} (h : mulN a b (some t) = some t') : ∀ j, j < 5 → t' j = t j := by
  intro j hj
  unfold mulN at h
  dsimp only at h
  split at h
  · cases h
  · cases h; rw [pk_un (by omega), pk_un (by omega)]
theorem mkT_3 {t : Nat → Int32} {a : Int} {w : Nat} (ht : wfr t 0) : rais 4 (sL w 4) (rais 3 (sL w 3) (rais 2 (sL w 2) (mulN a 1 (some t)))) = mkT t a 1 (sL w) := by
  have w1 := (wfr0 ht).1
  have e0 : rais 0 (sL w 0) (mulN a 1 (some t)) = mulN a 1 (some t) := rais_0 fun t' q => by rw [mulN_low q 0 (by omega)]; exact w1 0 (by omega)
  have e1 : rais 1 (sL w 1) (mulN a 1 (some t)) = mulN a 1 (some t) := rais_0 fun t' q => by rw [mulN_low q 1 (by omega)]; exact w1 1 (by omega)
  show _ = rais 4 (sL w 4) (rais 3 (sL w 3) (rais 2 (sL w 2) (rais 1 (sL w 1) (rais 0 (sL w 0) (mulN a 1 (some t))))))
  rw [e0, e1]
theorem sL_bd (w j : Nat) : (sL w j).natAbs ≤ 1 := by
  unfold sL
  repeat' split
  all_goals decide
theorem G_slope_ok {s : Sst} {c b w : Nat} {size tooG p1 p2 p3 p4 : Int32} {kept rows taken t : Nat → Int32} {post : Int32 → Int32 → (Nat → Int32) → (Nat → Int32) → Prop} (hR : RC s c size tooG rows) (hc : c < 100) (hb : b + 7 ≤ 5600) (ht : wfr t 0) (et : eqp 7 (fun j => kept (b + j)) t) (h1 : p1.toInt = sF t w) (h2 : p2.toInt = sL w 2) (h3 : p3.toInt = sL w 3) (h4 : p4.toInt = sL w 4)
    (k : ∀ size' tooG' rows' taken', RC (putD t w s) (c + 1) size' tooG' rows' → post size' tooG' rows' taken') : wp_G_putSlopePart size tooG kept rows taken (nI b) p1 p2 p3 p4 post := by
  have b2 := sL_bd w 2
  have b3 := sL_bd w 3
  have b4 := sL_bd w 4
  unfold wp_G_putSlopePart
  refine ⟨fun q => k _ _ _ _ ?_, fun q => W_take_ok hb fun tk hk => ?_⟩
  · have : sF t w = 0 := by rw [← h1, q]; rfl
    unfold putD
    rw [if_pos this]
    obtain ⟨z, a1, a2, a3, a4⟩ := hR
    exact ⟨z, a1, by omega, a3, a4⟩
  · have hne := i_ne0 q
    have hwt : wfr tk 0 := wfr_congr (fun e he => by rw [Nat.zero_add]; exact ((hk e he).trans (et e he)).symm) ht
    refine W_multiply_ok (o := some t) ⟨hwt, Or.inr ⟨t, rfl, rfl, eqp_trans hk et⟩⟩ (by rw [l_of_i]; exact i_abs _) (by rw [l_1]; decide) (by rw [l_1]; decide) (by rw [l_of_i]; exact hne) fun tg1 tk1 hT1 => ?_
    rw [l_of_i, l_1] at hT1
    refine W_raise_ok (c := 2) hT1 (by omega) (by omega) fun tg2 tk2 hT2 => W_raise_ok (c := 3) hT2 (by omega) (by omega) fun tg3 tk3 hT3 => W_raise_ok (c := 4) hT3 (by omega) (by omega) fun tg4 tk4 hT4 => ?_
    rw [h1, h2, h3, h4, mkT_3 ht] at hT4
    refine RC_put hR hc hT4.1 hT4.2 fun a b d hR' => k _ _ _ _ ?_
    unfold putD
    rw [if_neg (by rw [← h1]; exact hne)]; exact hR'
