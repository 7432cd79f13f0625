/-! X's diagonal -/
def xd_K (cells : Nat → Int32) (t : Nat) (Sc : Nat → Nat → Prop) (least amount : Int32) : Prop := ∃ p c, t ≤ p ∧ p < 20 ∧ t ≤ c ∧ c < 20 ∧ least = nI (20 * p + c) ∧ ((amount = 0 ∧ p = t ∧ c = t ∧ ∀ i j, t ≤ i → i < 20 → t ≤ j → j < 20 → Sc i j → (cells (20 * i + j)).toInt = 0) ∨ (0 < amount.toInt ∧ amount.toInt = ((cells (20 * p + c)).toInt.natAbs : Int) ∧ ∀ i j, t ≤ i → i < 20 → t ≤ j → j < 20 → Sc i j → (cells (20 * i + j)).toInt ≠ 0 → amount.toInt ≤ ((cells (20 * i + j)).toInt.natAbs : Int)))
theorem xd_mono {cells : Nat → Int32} {t : Nat} {Sc Sd : Nat → Nat → Prop} {least amount : Int32} (h : ∀ i j, t ≤ i → i < 20 → t ≤ j → j < 20 → Sd i j → Sc i j) (K : xd_K cells t Sc least amount) : xd_K cells t Sd least amount := by
  obtain ⟨p, c, h1, h2, h3, h4, e, K⟩ := K
  refine ⟨p, c, h1, h2, h3, h4, e, ?_⟩
  rcases K with ⟨a, b, c', d⟩ | ⟨a, b, d⟩
  · exact Or.inl ⟨a, b, c', fun i j i1 i2 j1 j2 s => d i j i1 i2 j1 j2 (h i j i1 i2 j1 j2 s)⟩
  · exact Or.inr ⟨a, b, fun i j i1 i2 j1 j2 s => d i j i1 i2 j1 j2 (h i j i1 i2 j1 j2 s)⟩
theorem xd_z0 : (0 : Int32).toInt = 0 := by decide
theorem xd_57 {post : Int32 → Prop} {J12 J22 : Int32 → Int32 → Int32 → Prop} {lev : Int32} {held : Nat → Int64} {place cells : Nat → Int32} {x1 least amount z : Int32} {t i0 j0 : Nat} {Sc Sd : Nat → Nat → Prop} (hi1 : t ≤ i0) (hi : i0 < 20) (hj1 : t ≤ j0) (hj : j0 < 20) (K : xd_K cells t Sc least amount) (hS : ∀ i j, Sd i j → Sc i j ∨ (i = i0 ∧ j = j0)) (hz : z.toInt = ((cells (20 * i0 + j0)).toInt.natAbs : Int)) (hJ : ∀ least' amount', xd_K cells t Sd least' amount' → J22 least' amount' (nI (j0 + 1))) : wX_leastCell_57 post J12 J22 x1 least amount (nI i0) (nI j0) z lev held place cells := by
  have new : (∀ i j, t ≤ i → i < 20 → t ≤ j → j < 20 → Sc i j → (cells (20 * i + j)).toInt ≠ 0 → z.toInt ≤ ((cells (20 * i + j)).toInt.natAbs : Int)) → 0 < z.toInt → wX_leastCell_74 post J12 J22 x1 (nI i0) (nI j0) z lev held place cells := by
    intro hm hp y ey y2 ey2
    rw [ey, ey2, nI_1, xt_ix]
    refine hJ _ _ ⟨i0, j0, hi1, hi, hj1, hj, rfl, Or.inr ⟨hp, hz, fun i j i1 i2 j1 j2 s ne => ?_⟩⟩
    rcases hS i j s with s | ⟨e1, e2⟩
    · exact hm i j i1 i2 j1 j2 s ne
    · rw [e1, e2, hz]; exact Int.le_refl _
  obtain ⟨p, c, h1, h2, h3, h4, e, K⟩ := K
  by_cases z0 : z = 0
  · have c0 : (cells (20 * i0 + j0)).toInt = 0 := by
      rw [z0, xd_z0] at hz
      omega
    refine br_t z0 (fun y ey => ?_)
    rw [ey, nI_1]
    refine hJ _ _ ⟨p, c, h1, h2, h3, h4, e, ?_⟩
    rcases K with ⟨a, b, c', d⟩ | ⟨a, b, d⟩
    · refine Or.inl ⟨a, b, c', fun i j i1 i2 j1 j2 s => ?_⟩
      rcases hS i j s with s | ⟨e1, e2⟩
      · exact d i j i1 i2 j1 j2 s
      · rw [e1, e2]; exact c0
    · refine Or.inr ⟨a, b, fun i j i1 i2 j1 j2 s ne => ?_⟩
      rcases hS i j s with s | ⟨e1, e2⟩
      · exact d i j i1 i2 j1 j2 s ne
      · rw [e1, e2] at ne; exact absurd c0 ne
  · have zp : 0 < z.toInt := by
      have : z.toInt ≠ 0 := fun q => z0 (Int32.toInt_inj.mp (by rw [q, xd_z0]))
      omega
    refine br_f z0 ?_
    rcases K with ⟨a, b, c', d⟩ | ⟨a, b, d⟩
    · exact br_t a (new (fun i j i1 i2 j1 j2 s ne => absurd (d i j i1 i2 j1 j2 s) ne) zp)
    · refine br_f (fun q => by rw [q, xd_z0] at a; omega) ?_
      by_cases le : amount ≤ z
      · refine br_t le (fun y ey => ?_)
        rw [ey, nI_1]
        rw [Int32.le_iff_toInt_le] at le
        refine hJ _ _ ⟨p, c, h1, h2, h3, h4, e, Or.inr ⟨a, b, fun i j i1 i2 j1 j2 s ne => ?_⟩⟩
        rcases hS i j s with s | ⟨e1, e2⟩
        · exact d i j i1 i2 j1 j2 s ne
        · rw [e1, e2, ← hz]; exact le
      · refine br_f le (new (fun i j i1 i2 j1 j2 s ne => ?_) zp)
        rw [Int32.le_iff_toInt_le] at le
        have := d i j i1 i2 j1 j2 s ne
        omega
theorem xd_least {post : Int32 → Prop} {lev : Int32} {held : Nat → Int64} {place cells : Nat → Int32} {t : Nat} (ht : t < 20) (hb : ∀ i j, t ≤ i → i < 20 → t ≤ j → j < 20 → -2 ≤ (cells (20 * i + j)).toInt ∧ (cells (20 * i + j)).toInt ≤ 2) (hp : ∀ p c, t ≤ p → p < 20 → t ≤ c → c < 20 → ((p = t ∧ c = t ∧ ∀ i j, t ≤ i → i < 20 → t ≤ j → j < 20 → (cells (20 * i + j)).toInt = 0) ∨ ((cells (20 * p + c)).toInt ≠ 0 ∧ ∀ i j, t ≤ i → i < 20 → t ≤ j → j < 20 → (cells (20 * i + j)).toInt ≠ 0 → (cells (20 * p + c)).toInt.natAbs ≤ (cells (20 * i + j)).toInt.natAbs)) → post (nI (20 * p + c))) : wpX_leastCell post (lev, held, place, cells) (nI t) := by
  have l : ∀ d r least amount, r + d = 20 → t ≤ r → xd_K cells t (fun i _ => i < r) least amount → wX_leastCell_12 post (nI t) lev held place cells (d + 1) least amount (nI r) := by
    intro d
    induction d with
    | zero =>
      intro r least amount hr _ K
      have e : r = 20 := by omega
      subst e
      refine br_t xm_ge ?_
      obtain ⟨p, c, h1, h2, h3, h4, e, K⟩ := K
      rw [e]
      refine hp p c h1 h2 h3 h4 ?_
      rcases K with ⟨a, b, c', d⟩ | ⟨a, b, d⟩
      · exact Or.inl ⟨b, c', fun i j i1 i2 j1 j2 => d i j i1 i2 j1 j2 i2⟩
      · refine Or.inr ⟨by omega, fun i j i1 i2 j1 j2 ne => ?_⟩
        have := d i j i1 i2 j1 j2 i2 ne
        omega
    | succ d ih =>
      intro r least amount hr htr K
      have hr20 : r < 20 := by omega
      refine br_f (xm_lt hr20) ?_
      have l2 : ∀ d2 x least amount, x + d2 = 20 → t ≤ x → xd_K cells t (fun i j => i < r ∨ (i = r ∧ j < x)) least amount → wX_leastCell_22 post (wX_leastCell_12 post (nI t) lev held place cells (d + 1)) (nI t) (nI r) lev held place cells (d2 + 1) least amount (nI x) := by
        intro d2
        induction d2 with
        | zero =>
          intro x least amount hx _ K
          have e : x = 20 := by omega
          subst e
          refine br_t xm_ge (fun y ey => ?_)
          rw [ey, nI_1]
          exact ih (r + 1) least amount (by omega) (by omega) (xd_mono (fun i j _ _ _ j2 s => by omega) K)
        | succ d2 ih2 =>
          intro x least amount hx htx K
          have hx20 : x < 20 := by omega
          refine br_f (xm_lt hx20) ?_
          rw [xt_ix, xt_cl hr20 hx20]
          refine ⟨xt_vi hr20 hx20, fun e ee => ?_⟩
          have b := hb r x htr hr20 htx hx20
          have go : ∀ z : Int32, z.toInt = ((cells (20 * r + x)).toInt.natAbs : Int) → wX_leastCell_57 post (wX_leastCell_12 post (nI t) lev held place cells (d + 1)) (wX_leastCell_22 post (wX_leastCell_12 post (nI t) lev held place cells (d + 1)) (nI t) (nI r) lev held place cells (d2 + 1)) (nI t) least amount (nI r) (nI x) z lev held place cells := fun z hz => xd_57 htr hr20 htx hx20 K (fun i j s => by omega) hz (fun least' amount' K' => ih2 (x + 1) least' amount' (by omega) (by omega) (xd_mono (fun i j _ _ _ _ s => by
            have s : i < r ∨ (i = r ∧ j < x + 1) := s
            omega) K'))
          by_cases h0 : 0 ≤ e
          · refine br_t h0 (go e ?_)
            rw [Int32.le_iff_toInt_le, xd_z0, ee] at h0
            rw [ee]; omega
          · refine br_f h0 (go (-e) ?_)
            rw [Int32.le_iff_toInt_le, xd_z0, ee] at h0
            rw [ee, nu_neg (by omega) (by omega)]; omega
      exact ⟨20 - t + 1, l2 (20 - t) t least amount (by omega) (Nat.le_refl t) (xd_mono (fun i j _ _ _ _ s => by omega) K)⟩
  unfold wpX_leastCell
  dsimp only
  intro y ey
  rw [ey, xt_ix]
  exact ⟨20 - t + 1, l (20 - t) t _ 0 (by omega) (Nat.le_refl t) ⟨t, t, Nat.le_refl t, ht, Nat.le_refl t, ht, rfl, Or.inl ⟨rfl, rfl, rfl, fun i j i1 i2 j1 j2 s => by omega⟩⟩⟩
/-! lessen -/
theorem xd_lrows {post : SX → Prop} {lev : Int32} {held : Nat → Int64} {place cells : Nat → Int32} {t : Nat} (ht : t < 20) (h0 : cells (20 * t + t) = 0 → post (lev, held, place, cells)) (hp : cells (20 * t + t) ≠ 0 → ∀ c', (∀ i j, i < 20 → j < 20 → c' (20 * i + j) = if t < i ∧ t ≤ j then cells (20 * i + j) - cells (20 * i + t) / cells (20 * t + t) * cells (20 * t + j) else cells (20 * i + j)) → post (lev, held, place, c')) : wpX_lessenRows post (lev, held, place, cells) (nI t) := by
  unfold wpX_lessenRows
  dsimp only
  rw [xt_ix, xt_cl ht ht]
  refine ⟨xt_vi ht ht, fun a ea => ?_⟩
  subst ea
  by_cases z : cells (20 * t + t) = 0
  · exact br_t z (h0 z)
  refine br_f z (fun y ey => ?_)
  rw [ey, nI_1]
  have l : ∀ d x w, x + d = 20 → t < x → (∀ i j, i < 20 → j < 20 → w (20 * i + j) = if t < i ∧ i < x ∧ t ≤ j then cells (20 * i + j) - cells (20 * i + t) / cells (20 * t + t) * cells (20 * t + j) else cells (20 * i + j)) → wX_lessenRows_21 post (nI t) (cells (20 * t + t)) lev (d + 1) (nI x) held place w := by
    intro d
    induction d with
    | zero =>
      intro x w hx h1 h
      have e : x = 20 := by omega
      subst e
      refine br_t xm_ge (hp z w (fun i j hi hj => ?_))
      rw [h i j hi hj]
      by_cases q : t < i ∧ t ≤ j
      · rw [if_pos ⟨q.1, hi, q.2⟩, if_pos q]
      · rw [if_neg (fun z => q ⟨z.1, z.2.2⟩), if_neg q]
    | succ d ih =>
      intro x w hx h1 h
      have hx20 : x < 20 := by omega
      refine br_f (xm_lt hx20) ?_
      rw [xt_ix, xt_cl hx20 ht]
      refine ⟨xt_vi hx20 ht, z, fun f ef => ?_⟩
      rw [h x t hx20 ht, if_neg (by omega)] at ef
      have l2 : ∀ d2 y w2, y + d2 = 20 → t ≤ y → (∀ i j, i < 20 → j < 20 → w2 (20 * i + j) = if (t < i ∧ i < x ∧ t ≤ j) ∨ (i = x ∧ t ≤ j ∧ j < y) then cells (20 * i + j) - cells (20 * i + t) / cells (20 * t + t) * cells (20 * t + j) else cells (20 * i + j)) → wX_lessenRows_45 post (wX_lessenRows_21 post (nI t) (cells (20 * t + t)) lev (d + 1)) (nI t) (cells (20 * t + t)) (nI x) f lev (d2 + 1) (nI y) held place w2 := by
        intro d2
        induction d2 with
        | zero =>
          intro y w2 hy hcy h2
          have e : y = 20 := by omega
          subst e
          refine br_t xm_ge (fun z ez => ?_)
          rw [ez, nI_1]
          refine ih (x + 1) w2 (by omega) (by omega) (fun i j hi hj => ?_)
          rw [h2 i j hi hj]
          by_cases q : t < i ∧ i < x + 1 ∧ t ≤ j
          · rw [if_pos q, if_pos (by omega)]
          · rw [if_neg q, if_neg (by omega)]
        | succ d2 ih2 =>
          intro y w2 hy hcy h2
          have hy20 : y < 20 := by omega
          refine br_f (xm_lt hy20) ?_
          rw [xt_ix, xt_ix, xt_cl hx20 hy20, xt_cl ht hy20]
          refine ⟨xt_vi hx20 hy20, xt_vi ht hy20, xt_vi hx20 hy20, fun w3 e3 z ez => ?_⟩
          rw [ez, nI_1]
          rw [h2 x y hx20 hy20, h2 t y ht hy20, if_neg (by omega), if_neg (by omega), ef] at e3
          refine ih2 (y + 1) w3 (by omega) (by omega) (fun i j hi hj => ?_)
          rw [e3]
          by_cases eij : i = x ∧ j = y
          · rw [eij.1, eij.2, xs_us, if_pos (by omega)]
          · rw [xs_un (by omega), h2 i j hi hj]
            by_cases q : (t < i ∧ i < x ∧ t ≤ j) ∨ (i = x ∧ t ≤ j ∧ j < y)
            · rw [if_pos q, if_pos (by omega)]
            · rw [if_neg q, if_neg (by omega)]
      refine ⟨20 - t + 1, l2 (20 - t) t w (by omega) (Nat.le_refl t) (fun i j hi hj => ?_)⟩
      rw [h i j hi hj]
      by_cases q : t < i ∧ i < x ∧ t ≤ j
      · rw [if_pos q, if_pos (Or.inl q)]
      · rw [if_neg q, if_neg (by omega)]
  exact ⟨20 - (t + 1) + 1, l (20 - (t + 1)) (t + 1) cells (by omega) (by omega) (fun i j hi hj => by rw [if_neg (by omega)])⟩
theorem xd_lcols {post : SX → Prop} {lev : Int32} {held : Nat → Int64} {place cells : Nat → Int32} {t : Nat} (ht : t < 20) (h0 : cells (20 * t + t) = 0 → post (lev, held, place, cells)) (hp : cells (20 * t + t) ≠ 0 → ∀ c', (∀ i j, i < 20 → j < 20 → c' (20 * i + j) = if t < j ∧ t ≤ i then cells (20 * i + j) - cells (20 * t + j) / cells (20 * t + t) * cells (20 * i + t) else cells (20 * i + j)) → post (lev, held, place, c')) : wpX_lessenColumns post (lev, held, place, cells) (nI t) := by
  unfold wpX_lessenColumns
  dsimp only
  rw [xt_ix, xt_cl ht ht]
  refine ⟨xt_vi ht ht, fun a ea => ?_⟩
  subst ea
  by_cases z : cells (20 * t + t) = 0
  · exact br_t z (h0 z)
  refine br_f z (fun y ey => ?_)
  rw [ey, nI_1]
  have l : ∀ d x w, x + d = 20 → t < x → (∀ i j, i < 20 → j < 20 → w (20 * i + j) = if t < j ∧ j < x ∧ t ≤ i then cells (20 * i + j) - cells (20 * t + j) / cells (20 * t + t) * cells (20 * i + t) else cells (20 * i + j)) → wX_lessenColumns_21 post (nI t) (cells (20 * t + t)) lev (d + 1) (nI x) held place w := by
    intro d
    induction d with
    | zero =>
      intro x w hx h1 h
      have e : x = 20 := by omega
      subst e
      refine br_t xm_ge (hp z w (fun i j hi hj => ?_))
      rw [h i j hi hj]
      by_cases q : t < j ∧ t ≤ i
      · rw [if_pos ⟨q.1, hj, q.2⟩, if_pos q]
      · rw [if_neg (fun z => q ⟨z.1, z.2.2⟩), if_neg q]
    | succ d ih =>
      intro x w hx h1 h
      have hx20 : x < 20 := by omega
      refine br_f (xm_lt hx20) ?_
      rw [xt_ix, xt_cl ht hx20]
      refine ⟨xt_vi ht hx20, z, fun f ef => ?_⟩
      rw [h t x ht hx20, if_neg (by omega)] at ef
      have l2 : ∀ d2 y w2, y + d2 = 20 → t ≤ y → (∀ i j, i < 20 → j < 20 → w2 (20 * i + j) = if (t < j ∧ j < x ∧ t ≤ i) ∨ (j = x ∧ t ≤ i ∧ i < y) then cells (20 * i + j) - cells (20 * t + j) / cells (20 * t + t) * cells (20 * i + t) else cells (20 * i + j)) → wX_lessenColumns_45 post (wX_lessenColumns_21 post (nI t) (cells (20 * t + t)) lev (d + 1)) (nI t) (cells (20 * t + t)) (nI x) f lev (d2 + 1) (nI y) held place w2 := by
        intro d2
        induction d2 with
        | zero =>
          intro y w2 hy hcy h2
          have e : y = 20 := by omega
          subst e
          refine br_t xm_ge (fun z ez => ?_)
          rw [ez, nI_1]
          refine ih (x + 1) w2 (by omega) (by omega) (fun i j hi hj => ?_)
          rw [h2 i j hi hj]
          by_cases q : t < j ∧ j < x + 1 ∧ t ≤ i
          · rw [if_pos q, if_pos (by omega)]
          · rw [if_neg q, if_neg (by omega)]
        | succ d2 ih2 =>
          intro y w2 hy hcy h2
          have hy20 : y < 20 := by omega
          refine br_f (xm_lt hy20) ?_
          rw [xt_ix, xt_ix, xt_cl hy20 hx20, xt_cl hy20 ht]
          refine ⟨xt_vi hy20 hx20, xt_vi hy20 ht, xt_vi hy20 hx20, fun w3 e3 z ez => ?_⟩
          rw [ez, nI_1]
          rw [h2 y x hy20 hx20, h2 y t hy20 ht, if_neg (by omega), if_neg (by omega), ef] at e3
          refine ih2 (y + 1) w3 (by omega) (by omega) (fun i j hi hj => ?_)
          rw [e3]
          by_cases eij : i = y ∧ j = x
          · rw [eij.1, eij.2, xs_us, if_pos (by omega)]
          · rw [xs_un (by omega), h2 i j hi hj]
            by_cases q : (t < j ∧ j < x ∧ t ≤ i) ∨ (j = x ∧ t ≤ i ∧ i < y)
            · rw [if_pos q, if_pos (by omega)]
            · rw [if_neg q, if_neg (by omega)]
      refine ⟨20 - t + 1, l2 (20 - t) t w (by omega) (Nat.le_refl t) (fun i j hi hj => ?_)⟩
      rw [h i j hi hj]
      by_cases q : t < j ∧ j < x ∧ t ≤ i
      · rw [if_pos q, if_pos (Or.inl q)]
      · rw [if_neg q, if_neg (by omega)]
  exact ⟨20 - (t + 1) + 1, l (20 - (t + 1)) (t + 1) cells (by omega) (by omega) (fun i j hi hj => by rw [if_neg (by omega)])⟩
theorem xd_alone {post : Int32 → Prop} {lev : Int32} {held : Nat → Int64} {place cells : Nat → Int32} {t : Nat} (ht : t < 20) (hr : ∀ i, t < i → i < 20 → cells (20 * i + t) = 0) (hc : ∀ i, t < i → i < 20 → cells (20 * t + i) = 0) (hp : post 1) : wpX_standsAlone post (lev, held, place, cells) (nI t) := by
  have l : ∀ d x, x + d = 20 → t < x → wX_standsAlone_4 post (nI t) lev held place cells (d + 1) (nI x) := by
    intro d
    induction d with
    | zero =>
      intro x hx _
      have e : x = 20 := by omega
      subst e
      exact br_t xm_ge hp
    | succ d ih =>
      intro x hx h
      have hx20 : x < 20 := by omega
      refine br_f (xm_lt hx20) ?_
      rw [xt_ix, xt_ix, xt_cl hx20 ht, xt_cl ht hx20]
      refine ⟨xt_vi hx20 ht, br_t (hr x h hx20) ⟨xt_vi ht hx20, br_t (hc x h hx20) (fun y ey => ?_)⟩⟩
      rw [ey, nI_1]
      exact ih (x + 1) (by omega) (by omega)
  unfold wpX_standsAlone
  dsimp only
  intro y ey
  rw [ey, nI_1]
  exact ⟨20 - (t + 1) + 1, l (20 - (t + 1)) (t + 1) (by omega) (by omega)⟩
