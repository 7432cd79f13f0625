/-! makeDiagonal -/
theorem xk_div {a d : Nat} (ha : a < 1000) (h0 : 0 < d) (hd : d < 1000) : nI a / nI d = nI (a / d) := by
  apply Int32.toInt_inj.mp
  rw [lg_idiv_nonneg (by rw [nI_toInt (by omega)]; omega) (by rw [nI_toInt (by omega)]; omega), nI_toInt (by omega), nI_toInt (by omega), nI_toInt (by have := Nat.div_le_self a d; omega)]
  first | rfl | exact (Int.natCast_ediv _ _).symm
theorem xk_sub {a b : Nat} (h : b ≤ a) : nI a - nI b = nI (a - b) := by
  obtain ⟨c, rfl⟩ : ∃ c, a = c + b := ⟨a - b, by omega⟩
  rw [← nI_add, Int32.add_sub_cancel, Nat.add_sub_cancel]
theorem xk_p {p c : Nat} (hp : p < 20) (hc : c < 20) : nI (20 * p + c) / 20 = nI p := by
  rw [show (20 : Int32) = nI 20 from rfl, xk_div (by omega) (by omega) (by omega), show (20 * p + c) / 20 = p by omega]
theorem xk_c {p c : Nat} (hp : p < 20) (hc : c < 20) : nI (20 * p + c) - nI (20 * p + c) / 20 * 20 = nI c := by
  rw [xk_p hp hc, show nI p * 20 = nI (p * 20) from (Int32.ofNat_mul p 20).symm, xk_sub (by omega), show 20 * p + c - p * 20 = c by omega]
theorem xk_c2 {p c : Nat} (hp : p < 20) (hc : c < 20) : nI (20 * p + c) - nI p * 20 = nI c := by
  rw [show nI p * 20 = nI (p * 20) from (Int32.ofNat_mul p 20).symm, xk_sub (by omega), show 20 * p + c - p * 20 = c by omega]
/-- an exact division of small numbers -/
theorem xk_ex {x a : Int32} {k : Int} (ha : a.toInt ≠ 0) (e : x.toInt = a.toInt * k) (h1 : -2 ≤ k) (h2 : k ≤ 2) : (x / a).toInt = k := by
  rw [Int32.toInt_div, e, Int.mul_tdiv_cancel_left _ ha]
  exact nu_b (by omega) (by omega)
theorem xk_cr {x k y : Int32} (hx1 : -2 ≤ x.toInt) (hx2 : x.toInt ≤ 2) (hk1 : -2 ≤ k.toInt) (hk2 : k.toInt ≤ 2) (hy1 : -2 ≤ y.toInt) (hy2 : y.toInt ≤ 2) : (x - k * y).toInt = x.toInt - k.toInt * y.toInt := by
  have p := nu_pr hk1 hk2 hy1 hy2
  rw [nu_sub, nu_mul (by omega) (by omega)]
  · rw [nu_mul (by omega) (by omega)]; omega
  · rw [nu_mul (by omega) (by omega)]; omega
theorem xk_z {x k y : Int32} (hy : y.toInt = 0) : (x - k * y) = x := by
  have : y = 0 := Int32.toInt_inj.mp (by rw [hy, xd_z0])
  rw [this]
  grind
def xk_n (c : Nat → Int32) (m i : Nat) : Bool := decide ((c (20 * i + i)).toInt.natAbs = m)
theorem xk_tb {c : Nat → Int32} {i j : Nat} (hi : i < 20) (hj : j < 20) : tb_X c i j = (c (20 * i + j)).toInt := by unfold tb_X; rw [if_pos ⟨hi, hj⟩]
theorem xk_to {c : Nat → Int32} {i j : Nat} (h : 20 ≤ i ∨ 20 ≤ j) : tb_X c i j = 0 := by unfold tb_X; rw [if_neg (by omega)]
/-- one turn: what is written, and what is left -/
theorem xk_turn {A0 : Nat → Nat → Int} {c c2 c3 c4 : Nat → Int32} {t u w : Nat} (ht : t < 20) (I : dg_I A0 (wi_w (tb_X c2) t t) u w) (hl : (c2 (20 * t + t)).toInt ≠ 0) (hm : ∀ i j, t ≤ i → i < 20 → t ≤ j → j < 20 → (c2 (20 * i + j)).toInt ≠ 0 → (c2 (20 * t + t)).toInt.natAbs ≤ (c2 (20 * i + j)).toInt.natAbs) (e3 : ∀ i j, i < 20 → j < 20 → c3 (20 * i + j) = if t < i ∧ t ≤ j then c2 (20 * i + j) - c2 (20 * i + t) / c2 (20 * t + t) * c2 (20 * t + j) else c2 (20 * i + j)) (e4 : ∀ i j, i < 20 → j < 20 → c4 (20 * i + j) = if t < j ∧ t ≤ i then c3 (20 * i + j) - c3 (20 * t + j) / c3 (20 * t + t) * c3 (20 * i + t) else c3 (20 * i + j)) : (∀ i, t < i → i < 20 → c4 (20 * i + t) = 0) ∧ (∀ i, t < i → i < 20 → c4 (20 * t + i) = 0) ∧ c4 (20 * t + t) = c2 (20 * t + t) ∧ (∀ i j, i < t → j < t → c4 (20 * i + j) = c2 (20 * i + j)) ∧ (((c2 (20 * t + t)).toInt.natAbs = 1 ∧ dg_I A0 (wi_w (tb_X c4) (t + 1) (t + 1)) (u + 1) w) ∨ ((c2 (20 * t + t)).toInt.natAbs = 2 ∧ dg_I A0 (wi_w (tb_X c4) (t + 1) (t + 1)) u (w + 1))) := by
  have hin : ∀ i j, t ≤ i → i < 20 → t ≤ j → j < 20 → wi_w (tb_X c2) t t i j = (c2 (20 * i + j)).toInt := fun i j i1 i2 j1 j2 => by rw [wi_in i1 j1, xk_tb i2 j2]
  have htt := hin t t (Nat.le_refl t) ht (Nat.le_refl t) ht
  have L := dg_lead (W := wi_w (tb_X c2) t t) (p := t) (c := t) I.1 (by rw [htt]; exact hl) (fun i j ne => by
    by_cases hi : t ≤ i ∧ i < 20
    · by_cases hj : t ≤ j ∧ j < 20
      · rw [hin i j hi.1 hi.2 hj.1 hj.2] at ne ⊢
        rw [htt]
        exact hm i j hi.1 hi.2 hj.1 hj.2 ne
      · exfalso
        apply ne
        by_cases z : t ≤ i ∧ t ≤ j
        · rw [wi_in z.1 z.2, xk_to (by omega)]
        · exact if_neg z
    · exfalso
      apply ne
      by_cases z : t ≤ i ∧ t ≤ j
      · rw [wi_in z.1 z.2, xk_to (by omega)]
      · exact if_neg z)
  have D := dg_div I.1 L
  have B : ∀ i j, t ≤ i → i < 20 → t ≤ j → j < 20 → -2 ≤ (c2 (20 * i + j)).toInt ∧ (c2 (20 * i + j)).toInt ≤ 2 := fun i j i1 i2 j1 j2 => by
    have := rk_M_e I.1 i j
    rwa [hin i j i1 i2 j1 j2] at this
  -- the factors of rows and columns
  have Q : ∀ i, t ≤ i → i < 20 → ∃ k : Int, (c2 (20 * i + t)).toInt = (c2 (20 * t + t)).toInt * k ∧ -2 ≤ k ∧ k ≤ 2 ∧ (c2 (20 * i + t) / c2 (20 * t + t)).toInt = k := fun i i1 i2 => by
    obtain ⟨k, e, k1, k2⟩ := D i t
    rw [hin i t i1 i2 (Nat.le_refl t) ht, htt] at e
    exact ⟨k, e, k1, k2, xk_ex hl e k1 k2⟩
  have Q2 : ∀ j, t ≤ j → j < 20 → ∃ k : Int, (c2 (20 * t + j)).toInt = (c2 (20 * t + t)).toInt * k ∧ -2 ≤ k ∧ k ≤ 2 ∧ (c2 (20 * t + j) / c2 (20 * t + t)).toInt = k := fun j j1 j2 => by
    obtain ⟨k, e, k1, k2⟩ := D t j
    rw [hin t j (Nat.le_refl t) ht j1 j2, htt] at e
    exact ⟨k, e, k1, k2, xk_ex hl e k1 k2⟩
  have r3 : ∀ j, j < 20 → c3 (20 * t + j) = c2 (20 * t + j) := fun j hj => by rw [e3 t j ht hj, if_neg (by omega)]
  have v3 : ∀ i j, t < i → i < 20 → t ≤ j → j < 20 → ∃ k : Int, (c2 (20 * i + t)).toInt = (c2 (20 * t + t)).toInt * k ∧ (c3 (20 * i + j)).toInt = (c2 (20 * i + j)).toInt - k * (c2 (20 * t + j)).toInt := fun i j i1 i2 j1 j2 => by
    obtain ⟨k, q1, q2, q3, q4⟩ := Q i (by omega) i2
    refine ⟨k, q1, ?_⟩
    have b1 := B i j (by omega) i2 j1 j2
    have b2 := B t j (Nat.le_refl t) ht j1 j2
    rw [e3 i j i2 j2, if_pos ⟨i1, j1⟩, xk_cr b1.1 b1.2 (by omega) (by omega) b2.1 b2.2, q4]
  have z3 : ∀ i, t < i → i < 20 → (c3 (20 * i + t)).toInt = 0 := fun i i1 i2 => by
    obtain ⟨k, q1, q2⟩ := v3 i t i1 i2 (Nat.le_refl t) ht
    rw [q2, q1, Int.mul_comm, Int.sub_self]
  have w4 : ∀ i j, t < i → i < 20 → j < 20 → c4 (20 * i + j) = c3 (20 * i + j) := fun i j i1 i2 j2 => by
    rw [e4 i j i2 j2]
    by_cases q : t < j ∧ t ≤ i
    · rw [if_pos q, xk_z (z3 i i1 i2)]
    · rw [if_neg q]
  have c4t : c4 (20 * t + t) = c2 (20 * t + t) := by rw [e4 t t ht ht, if_neg (by omega), r3 t ht]
  refine ⟨fun i i1 i2 => ?_, fun j j1 j2 => ?_, c4t, fun i j hi hj => ?_, ?_⟩
  · rw [w4 i t i1 i2 ht]
    exact Int32.toInt_inj.mp (by rw [z3 i i1 i2, xd_z0])
  · rw [e4 t j ht j2, if_pos ⟨j1, Nat.le_refl t⟩, r3 j j2, r3 t ht]
    obtain ⟨k, q1, q2, q3, q4⟩ := Q2 j (by omega) j2
    have b1 := B t j (Nat.le_refl t) ht (by omega) j2
    have b2 := B t t (Nat.le_refl t) ht (Nat.le_refl t) ht
    apply Int32.toInt_inj.mp
    rw [xk_cr b1.1 b1.2 (by omega) (by omega) b2.1 b2.2, q4, q1, Int.mul_comm, Int.sub_self, xd_z0]
  · rw [e4 i j (by omega) (by omega), if_neg (by omega), e3 i j (by omega) (by omega), if_neg (by omega)]
  · have hV := wi_V (A := tb_X c2) (B := tb_X c4) (r := t) (c := t) (e := tb_X c2 t t) (fun i j hi hj => by
      by_cases i2 : i < 20
      · by_cases j2 : j < 20
        · obtain ⟨k, q1, q2⟩ := v3 i j hi i2 (by omega) j2
          rw [xk_tb i2 j2, xk_tb ht ht, xk_tb i2 j2, xk_tb i2 ht, xk_tb ht j2, w4 i j hi i2 j2, q2, q1, Int.mul_sub, Int.mul_assoc]
        · rw [xk_to (c := c4) (by omega), xk_to (c := c2) (i := i) (j := j) (by omega), xk_to (c := c2) (i := t) (j := j) (by omega), Int.mul_zero, Int.mul_zero]; rfl
      · rw [xk_to (c := c4) (by omega), xk_to (c := c2) (i := i) (j := j) (by omega), xk_to (c := c2) (i := i) (j := t) (by omega), Int.mul_zero, Int.zero_mul]; rfl)
    have S := dg_step (p := t) (c := t) (V := wi_w (tb_X c4) (t + 1) (t + 1)) I L (fun i j => by
      have := hV i j
      rw [← wi_in (A := tb_X c2) (Nat.le_refl t) (Nat.le_refl t)] at this
      exact this)
    rw [htt] at S
    rcases S with ⟨a, s⟩ | ⟨a, s⟩
    · exact Or.inl ⟨by omega, s⟩
    · exact Or.inr ⟨by omega, s⟩
theorem xk_make {post : SX → Prop} {lev : Int32} {held : Nat → Int64} {place cells : Nat → Int32} (hM : rk_M 2 (tb_X cells)) (hp : ∀ c', rk_R 0 (tb_X cells) (cn_c (xk_n c' 1) 20 + cn_c (xk_n c' 2) 20) → rk_R 2 (tb_X cells) (cn_c (xk_n c' 1) 20) → (∀ i, i < 20 → (c' (20 * i + i)).toInt.natAbs ≤ 2) → post (lev, held, place, c')) : wpX_makeDiagonal post (lev, held, place, cells) := by
  have l : ∀ d t c, t + d = 20 → dg_I (tb_X cells) (wi_w (tb_X c) t t) (cn_c (xk_n c 1) t) (cn_c (xk_n c 2) t) → (∀ i, i < t → (c (20 * i + i)).toInt.natAbs ≤ 2) → wX_makeDiagonal_2 post (d + 1) (nI t) lev held place c := by
    intro d
    induction d with
    | zero =>
      intro t c ht I hd
      have e : t = 20 := by omega
      subst e
      have := dg_zero I (fun i j => by
        by_cases z : 20 ≤ i ∧ 20 ≤ j
        · rw [wi_in z.1 z.2, xk_to (by omega)]
        · exact if_neg z)
      exact br_t xm_ge (hp c this.1 this.2 hd)
    | succ d ih =>
      intro t c ht I hd
      have ht20 : t < 20 := by omega
      refine br_f (xm_lt ht20) ⟨2, ?_⟩
      have B : ∀ i j, t ≤ i → i < 20 → t ≤ j → j < 20 → -2 ≤ (c (20 * i + j)).toInt ∧ (c (20 * i + j)).toInt ≤ 2 := fun i j i1 i2 j1 j2 => by
        have := rk_M_e I.1 i j
        rwa [wi_in i1 j1, xk_tb i2 j2] at this
      refine br_f (nI_ge (a := 0) (b := 1000000) (by omega) (by decide)) (br_t rfl (xd_least ht20 B (fun p q p1 p2 q1 q2 K => ⟨by decide, ?_⟩)))
      rw [xk_p p2 q2]
      refine xm_swapR ht20 p2 (fun c1 e1 => ⟨by decide, ?_⟩)
      rw [xk_c2 p2 q2]
      refine xm_swapC ht20 q2 (fun c2 e2 => ?_)
      have c2v : ∀ i j, i < 20 → j < 20 → c2 (20 * i + j) = c (20 * wi_sw t p i + wi_sw t q j) := fun i j hi hj => by
        rw [e2 i j hi hj, e1 i _ hi ((wi_sw_lt ht20 q2).mpr hj)]
      have hsw : ∀ i j, tb_X c2 i j = tb_X c (wi_sw t p i) (wi_sw t q j) := by
        intro i j
        by_cases hi : i < 20
        · by_cases hj : j < 20
          · rw [xk_tb hi hj, xk_tb ((wi_sw_lt ht20 p2).mpr hi) ((wi_sw_lt ht20 q2).mpr hj), c2v i j hi hj]
          · rw [xk_to (by omega), xk_to]
            right
            have := (wi_sw_lt (i := j) ht20 q2)
            omega
        · rw [xk_to (by omega), xk_to]
          left
          have := (wi_sw_lt (i := i) ht20 p2)
          omega
      have hsw2 := wi_re (r := t) (c := t) (wi_sw t p) (wi_sw t q) (fun i => wi_sw_ge (Nat.le_refl t) p1) (fun j => wi_sw_ge (Nat.le_refl t) q1) hsw
      have I2 := dg_re (wi_sw t p) (wi_sw t q) (wi_sw_sw t p) (wi_sw_sw t q) hsw2 I
      have old : ∀ i, i < t → c2 (20 * i + i) = c (20 * i + i) := fun i hi => by
        rw [c2v i i (by omega) (by omega)]
        have e1 : wi_sw t p i = i := by unfold wi_sw; rw [if_neg (by omega), if_neg (by omega)]
        have e2 : wi_sw t q i = i := by unfold wi_sw; rw [if_neg (by omega), if_neg (by omega)]
        rw [e1, e2]
      have cold : ∀ m, cn_c (xk_n c2 m) t = cn_c (xk_n c m) t := fun m => cn_congr (fun i hi => by unfold xk_n; rw [old i hi])
      -- the end of a turn: the next t
      have fin : ∀ c4 : Nat → Int32, (∀ i, t < i → i < 20 → c4 (20 * i + t) = 0) → (∀ i, t < i → i < 20 → c4 (20 * t + i) = 0) → (∀ i, i < t → c4 (20 * i + i) = c (20 * i + i)) → (c4 (20 * t + t)).toInt.natAbs ≤ 2 → dg_I (tb_X cells) (wi_w (tb_X c4) (t + 1) (t + 1)) (cn_c (xk_n c4 1) (t + 1)) (cn_c (xk_n c4 2) (t + 1)) → wpX_standsAlone (fun r_33 => ∀ x3, x3 = (0 : Int32) + 1 → wX_makeDiagonal_12 post (wX_makeDiagonal_2 post (d + 1)) (nI t) 1 r_33 x3 lev held place c4) (lev, held, place, c4) (nI t) := by
        intro c4 z1 z2 o4 b4 I4
        refine xd_alone ht20 z1 z2 (fun x3 e3 => ?_)
        rw [e3]
        refine br_f (by decide) (br_f (by decide) (fun y ey => ?_))
        rw [ey, nI_1]
        refine ih (t + 1) c4 (by omega) I4 (fun i hi => ?_)
        by_cases e : i = t
        · rw [e]; exact b4
        · rw [o4 i (by omega)]; exact hd i (by omega)
      have hat : c2 (20 * t + t) = c (20 * p + q) := by
        rw [c2v t t ht20 ht20]
        have e1 : wi_sw t p t = p := by unfold wi_sw; rw [if_pos rfl]
        have e2 : wi_sw t q t = q := by unfold wi_sw; rw [if_pos rfl]
        rw [e1, e2]
      rcases K with ⟨ep, eq, Kz⟩ | ⟨Kn, Km⟩
      · -- nothing is left
        have z2 : ∀ i j, t ≤ i → i < 20 → t ≤ j → j < 20 → c2 (20 * i + j) = 0 := fun i j i1 i2 j1 j2 => by
          rw [c2v i j i2 j2]
          exact Int32.toInt_inj.mp (by rw [Kz _ _ ((wi_sw_ge (Nat.le_refl t) p1).mpr i1) ((wi_sw_lt ht20 p2).mpr i2) ((wi_sw_ge (Nat.le_refl t) q1).mpr j1) ((wi_sw_lt ht20 q2).mpr j2), xd_z0])
        have zt := z2 t t (Nat.le_refl t) ht20 (Nat.le_refl t) ht20
        have W0 : ∀ i j, wi_w (tb_X c2) t t i j = 0 := fun i j => by
          by_cases z : t ≤ i ∧ t ≤ j
          · rw [wi_in z.1 z.2]
            by_cases b : i < 20 ∧ j < 20
            · rw [xk_tb b.1 b.2, z2 i j z.1 b.1 z.2 b.2]; rfl
            · exact xk_to (by omega)
          · exact if_neg z
        have W1 : wi_w (tb_X c2) (t + 1) (t + 1) = wi_w (tb_X c2) t t := by
          funext i j
          rw [W0]
          by_cases z : t + 1 ≤ i ∧ t + 1 ≤ j
          · have := W0 i j
            rw [wi_in (by omega) (by omega)] at this
            rw [wi_in z.1 z.2]; exact this
          · exact if_neg z
        refine xd_lrows ht20 (fun _ => ?_) (fun ne => absurd zt ne)
        refine xd_lcols ht20 (fun _ => ?_) (fun ne => absurd zt ne)
        refine fin c2 (fun i i1 i2 => z2 i t (by omega) i2 (Nat.le_refl t) ht20) (fun i i1 i2 => z2 t i (Nat.le_refl t) ht20 (by omega) i2) old (by rw [zt]; decide) ?_
        rw [W1, cn_s, cn_s, cold, cold]
        have n1 : xk_n c2 1 t = false := by unfold xk_n; rw [zt]; decide
        have n2 : xk_n c2 2 t = false := by unfold xk_n; rw [zt]; decide
        rw [n1, n2]
        exact I2
      · have hl : (c2 (20 * t + t)).toInt ≠ 0 := by rw [hat]; exact Kn
        have hl0 : c2 (20 * t + t) ≠ 0 := fun z => by rw [z, xd_z0] at hl; exact hl rfl
        have hm : ∀ i j, t ≤ i → i < 20 → t ≤ j → j < 20 → (c2 (20 * i + j)).toInt ≠ 0 → (c2 (20 * t + t)).toInt.natAbs ≤ (c2 (20 * i + j)).toInt.natAbs := fun i j i1 i2 j1 j2 ne => by
          rw [c2v i j i2 j2] at ne ⊢
          rw [hat]
          exact Km _ _ ((wi_sw_ge (Nat.le_refl t) p1).mpr i1) ((wi_sw_lt ht20 p2).mpr i2) ((wi_sw_ge (Nat.le_refl t) q1).mpr j1) ((wi_sw_lt ht20 q2).mpr j2) ne
        refine xd_lrows ht20 (fun z => absurd z hl0) (fun _ c3 e3 => ?_)
        have c3t : c3 (20 * t + t) = c2 (20 * t + t) := by rw [e3 t t ht20 ht20, if_neg (by omega)]
        refine xd_lcols ht20 (fun z => absurd (c3t.symm.trans z) hl0) (fun _ c4 e4 => ?_)
        obtain ⟨t1, t2, t3, t4, t5⟩ := xk_turn (c := c) ht20 I2 hl hm e3 e4
        have cnew : ∀ m, cn_c (xk_n c4 m) t = cn_c (xk_n c m) t := fun m => by
          rw [← cold m]
          exact cn_congr (fun i hi => by unfold xk_n; rw [t4 i i hi hi])
        refine fin c4 t1 t2 (fun i hi => by rw [t4 i i hi hi, old i hi]) (by rw [t3]; rcases t5 with ⟨a, _⟩ | ⟨a, _⟩ <;> omega) ?_
        rw [cn_s, cn_s, cnew, cnew]
        rcases t5 with ⟨a, s⟩ | ⟨a, s⟩
        · have n1 : xk_n c4 1 t = true := by unfold xk_n; rw [t3, a]; rfl
          have n2 : xk_n c4 2 t = false := by unfold xk_n; rw [t3, a]; rfl
          rw [n1, n2]
          exact s
        · have n1 : xk_n c4 1 t = false := by unfold xk_n; rw [t3, a]; rfl
          have n2 : xk_n c4 2 t = true := by unfold xk_n; rw [t3, a]; rfl
          rw [n1, n2]
          exact s
  have w0 : wi_w (tb_X cells) 0 0 = tb_X cells := by
    funext i j
    exact wi_in (Nat.zero_le i) (Nat.zero_le j)
  refine ⟨21, l 20 0 cells rfl ?_ (fun i hi => by omega)⟩
  rw [w0]
  exact dg_0 hM
