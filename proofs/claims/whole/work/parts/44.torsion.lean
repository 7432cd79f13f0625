/-! one turn of the reference's diagonal, and torsion -/
theorem yo_cr {x k y : Int64} (hx1 : -2 ≤ x.toInt) (hx2 : x.toInt ≤ 2) (hk1 : -2 ≤ k.toInt) (hk2 : k.toInt ≤ 2) (hy1 : -2 ≤ y.toInt) (hy2 : y.toInt ≤ 2) : (x - k * y).toInt = x.toInt - k.toInt * y.toInt := by
  have p := nu_pr hk1 hk2 hy1 hy2
  rw [nu_SUB, nu_MUL (by omega) (by omega)]
  · rw [nu_MUL (by omega) (by omega)]; omega
  · rw [nu_MUL (by omega) (by omega)]; omega
theorem yo_z {x k y : Int64} (hy : y.toInt = 0) : (x - k * y) = x := by
  have : y = 0 := Int64.toInt_inj.mp (by rw [hy, yt_l0])
  rw [this]
  grind
/-- what the least entry at t, t gives -/
theorem yo_facts {A0 : Nat → Nat → Int} {R C : Nat} {c2 : Nat → Int64} {t u w : Nat} (ht : t < R) (htC : t < C) (I : dg_I A0 (wi_w (tb_Y R C c2) t t) u w) (hl : (c2 (20 * t + t)).toInt ≠ 0) (hm : ∀ i j, t ≤ i → i < R → t ≤ j → j < C → (c2 (20 * i + j)).toInt ≠ 0 → (c2 (20 * t + t)).toInt.natAbs ≤ (c2 (20 * i + j)).toInt.natAbs) : (((wi_w (tb_Y R C c2) t t) t t = 1 ∨ (wi_w (tb_Y R C c2) t t) t t = -1) ∨ (((wi_w (tb_Y R C c2) t t) t t = 2 ∨ (wi_w (tb_Y R C c2) t t) t t = -2) ∧ ∀ i j, ¬ ((wi_w (tb_Y R C c2) t t) i j = 1 ∨ (wi_w (tb_Y R C c2) t t) i j = -1))) ∧ (∀ i j, t ≤ i → i < R → t ≤ j → j < C → -2 ≤ (c2 (20 * i + j)).toInt ∧ (c2 (20 * i + j)).toInt ≤ 2) ∧ (∀ i, t ≤ i → i < R → ∃ k : Int, (c2 (20 * i + t)).toInt = (c2 (20 * t + t)).toInt * k ∧ -2 ≤ k ∧ k ≤ 2 ∧ (c2 (20 * i + t) / c2 (20 * t + t)).toInt = k) ∧ (∀ j, t ≤ j → j < C → ∃ k : Int, (c2 (20 * t + j)).toInt = (c2 (20 * t + t)).toInt * k ∧ -2 ≤ k ∧ k ≤ 2 ∧ (c2 (20 * t + j) / c2 (20 * t + t)).toInt = k) := by
  have hin : ∀ i j, t ≤ i → i < R → t ≤ j → j < C → wi_w (tb_Y R C c2) t t i j = (c2 (20 * i + j)).toInt := fun i j i1 i2 j1 j2 => by rw [wi_in i1 j1, yr_tb i2 j2]
  have htt := hin t t (Nat.le_refl t) ht (Nat.le_refl t) htC
  have L := dg_lead (W := wi_w (tb_Y R C c2) t t) (p := t) (c := t) I.1 (by rw [htt]; exact hl) (fun i j ne => by
    by_cases hi : t ≤ i ∧ i < R
    · by_cases hj : t ≤ j ∧ j < C
      · rw [hin i j hi.1 hi.2 hj.1 hj.2] at ne ⊢
        rw [htt]
        exact hm i j hi.1 hi.2 hj.1 hj.2 ne
      · exfalso
        apply ne
        by_cases z : t ≤ i ∧ t ≤ j
        · rw [wi_in z.1 z.2, yr_to (by omega)]
        · exact if_neg z
    · exfalso
      apply ne
      by_cases z : t ≤ i ∧ t ≤ j
      · rw [wi_in z.1 z.2, yr_to (by omega)]
      · exact if_neg z)
  have D := dg_div I.1 L
  refine ⟨L, fun i j i1 i2 j1 j2 => ?_, fun i i1 i2 => ?_, fun j j1 j2 => ?_⟩
  · have := rk_M_e I.1 i j
    rwa [hin i j i1 i2 j1 j2] at this
  · obtain ⟨k, e, k1, k2⟩ := D i t
    rw [hin i t i1 i2 (Nat.le_refl t) htC, htt] at e
    exact ⟨k, e, k1, k2, yf_ex hl e (by omega) (by omega)⟩
  · obtain ⟨k, e, k1, k2⟩ := D t j
    rw [hin t j (Nat.le_refl t) ht j1 j2, htt] at e
    exact ⟨k, e, k1, k2, yf_ex hl e (by omega) (by omega)⟩
theorem yo_F {A0 : Nat → Nat → Int} {R C : Nat} {c2 : Nat → Int64} {t u w : Nat} (ht : t < R) (htC : t < C) (I : dg_I A0 (wi_w (tb_Y R C c2) t t) u w) (hl : (c2 (20 * t + t)).toInt ≠ 0) (hm : ∀ i j, t ≤ i → i < R → t ≤ j → j < C → (c2 (20 * i + j)).toInt ≠ 0 → (c2 (20 * t + t)).toInt.natAbs ≤ (c2 (20 * i + j)).toInt.natAbs) (i j : Nat) (i1 : t < i) (i2 : i < R) (j1 : t ≤ j) (j2 : j < C) : ∃ k : Int, (c2 (20 * i + t)).toInt = (c2 (20 * t + t)).toInt * k ∧ (yk_F c2 (c2 (20 * t + t)) t i j).toInt = (c2 (20 * i + j)).toInt - k * (c2 (20 * t + j)).toInt := by
  obtain ⟨_, B, Q, _⟩ := yo_facts ht htC I hl hm
  obtain ⟨k, q1, q2, q3, q4⟩ := Q i (by omega) i2
  refine ⟨k, q1, ?_⟩
  have b1 := B i j (by omega) i2 j1 j2
  have b2 := B t j (Nat.le_refl t) ht j1 j2
  unfold yk_F
  rw [yo_cr b1.1 b1.2 (by omega) (by omega) b2.1 b2.2, q4]
theorem yo_turn {A0 : Nat → Nat → Int} {R C : Nat} {c2 c3 c4 : Nat → Int64} {t u w : Nat} (hR : R ≤ 20) (hC : C ≤ 20) (ht : t < R) (htC : t < C) (I : dg_I A0 (wi_w (tb_Y R C c2) t t) u w) (hl : (c2 (20 * t + t)).toInt ≠ 0) (hm : ∀ i j, t ≤ i → i < R → t ≤ j → j < C → (c2 (20 * i + j)).toInt ≠ 0 → (c2 (20 * t + t)).toInt.natAbs ≤ (c2 (20 * i + j)).toInt.natAbs) (e3 : ∀ i j, i < 20 → j < 20 → c3 (20 * i + j) = if t < i ∧ i < R ∧ t ≤ j ∧ j < C then yk_F c2 (c2 (20 * t + t)) t i j else c2 (20 * i + j)) (e4 : ∀ i j, i < 20 → j < 20 → c4 (20 * i + j) = if t < j ∧ j < C ∧ t ≤ i ∧ i < R then yk_G c3 (c2 (20 * t + t)) t i j else c3 (20 * i + j)) : c4 (20 * t + t) = c2 (20 * t + t) ∧ (((c2 (20 * t + t)).toInt.natAbs = 1 ∧ dg_I A0 (wi_w (tb_Y R C c4) (t + 1) (t + 1)) (u + 1) w) ∨ ((c2 (20 * t + t)).toInt.natAbs = 2 ∧ dg_I A0 (wi_w (tb_Y R C c4) (t + 1) (t + 1)) u (w + 1))) := by
  have FF := yo_F ht htC I hl hm
  obtain ⟨L, B, Q, Q2⟩ := yo_facts ht htC I hl hm
  have htt : wi_w (tb_Y R C c2) t t t t = (c2 (20 * t + t)).toInt := by rw [wi_in (Nat.le_refl t) (Nat.le_refl t), yr_tb ht htC]
  have v3 : ∀ i j, t < i → i < R → t ≤ j → j < C → ∃ k : Int, (c2 (20 * i + t)).toInt = (c2 (20 * t + t)).toInt * k ∧ (c3 (20 * i + j)).toInt = (c2 (20 * i + j)).toInt - k * (c2 (20 * t + j)).toInt := fun i j i1 i2 j1 j2 => by
    rw [e3 i j (by omega) (by omega), if_pos ⟨i1, i2, j1, j2⟩]
    exact FF i j i1 i2 j1 j2
  have z3 : ∀ i, t < i → i < R → (c3 (20 * i + t)).toInt = 0 := fun i i1 i2 => by
    obtain ⟨k, q1, q2⟩ := v3 i t i1 i2 (Nat.le_refl t) htC
    rw [q2, q1, Int.mul_comm, Int.sub_self]
  have w4 : ∀ i j, t < i → i < R → j < C → c4 (20 * i + j) = c3 (20 * i + j) := fun i j i1 i2 j2 => by
    rw [e4 i j (by omega) (by omega)]
    by_cases q : t < j ∧ j < C ∧ t ≤ i ∧ i < R
    · rw [if_pos q]
      exact yo_z (z3 i i1 i2)
    · rw [if_neg q]
  refine ⟨by rw [e4 t t (by omega) (by omega), if_neg (by omega), e3 t t (by omega) (by omega), if_neg (by omega)], ?_⟩
  have hV := wi_V (A := tb_Y R C c2) (B := tb_Y R C c4) (r := t) (c := t) (e := tb_Y R C c2 t t) (fun i j hi hj => by
    by_cases i2 : i < R
    · by_cases j2 : j < C
      · obtain ⟨k, q1, q2⟩ := v3 i j hi i2 (by omega) j2
        rw [yr_tb i2 j2, yr_tb ht htC, yr_tb i2 j2, yr_tb i2 htC, yr_tb ht j2, w4 i j hi i2 j2, q2, q1, Int.mul_sub, Int.mul_assoc]
      · rw [yr_to (c := c4) (by omega), yr_to (c := c2) (i := i) (j := j) (by omega), yr_to (c := c2) (i := t) (j := j) (by omega), Int.mul_zero, Int.mul_zero]; rfl
    · rw [yr_to (c := c4) (by omega), yr_to (c := c2) (i := i) (j := j) (by omega), yr_to (c := c2) (i := i) (j := t) (by omega), Int.mul_zero, Int.zero_mul]; rfl)
  have S := dg_step (p := t) (c := t) (V := wi_w (tb_Y R C c4) (t + 1) (t + 1)) I L (fun i j => by
    have := hV i j
    rw [← wi_in (A := tb_Y R C c2) (Nat.le_refl t) (Nat.le_refl t)] at this
    exact this)
  rw [htt] at S
  rcases S with ⟨a, s⟩ | ⟨a, s⟩
  · exact Or.inl ⟨by omega, s⟩
  · exact Or.inr ⟨by omega, s⟩
theorem yo_mul {n : Nat} : lN (2 ^ n) * 2 = lN (2 ^ (n + 1)) := by
  rw [Nat.pow_succ, show (2 : Int64) = lN 2 from rfl, lN_mul]
theorem yo_cases {x : Int64} {n : Nat} (hn : n = 1 ∨ n = 2) (h : x.toInt.natAbs = n) : x = lN n ∨ x = - lN n := by
  have e1 : (lN 1).toInt = 1 := by decide
  have e2 : (lN 2).toInt = 2 := by decide
  have f1 : (- lN 1).toInt = -1 := by decide
  have f2 : (- lN 2).toInt = -2 := by decide
  rcases hn with e | e
  · subst e
    rcases (show x.toInt = 1 ∨ x.toInt = -1 by omega) with q | q
    · exact Or.inl (Int64.toInt_inj.mp (by rw [q, e1]))
    · exact Or.inr (Int64.toInt_inj.mp (by rw [q, f1]))
  · subst e
    rcases (show x.toInt = 2 ∨ x.toInt = -2 by omega) with q | q
    · exact Or.inl (Int64.toInt_inj.mp (by rw [q, e2]))
    · exact Or.inr (Int64.toInt_inj.mp (by rw [q, f2]))
theorem yo_tors {post : Int32 → SY → Prop} {R C : Nat} {has now pl si : Nat → Int32} {ta : Nat → Int64} (hR : R ≤ 20) (hC : C ≤ 20) (hM : rk_M 2 (tb_Y R C ta)) (hp : ∀ u w c', rk_R 0 (tb_Y R C ta) (u + w) → rk_R 2 (tb_Y R C ta) u → post (nI (2 ^ w)) (nI R, nI C, has, now, pl, c', si)) : ∃ n, wY_torsion_47 post n 1 0 0 (nI R) (nI C) has now pl ta si := by
  have l : ∀ d t c u w, t + d = 21 → dg_I (tb_Y R C ta) (wi_w (tb_Y R C c) t t) u w → wY_torsion_47 post (d + 1) (lN (2 ^ w)) (nI t) (nI t) (nI R) (nI C) has now pl c si := by
    intro d
    induction d with
    | zero =>
      intro t c u w ht I
      have Z := dg_zero I (fun i j => by
        by_cases z : t ≤ i ∧ t ≤ j
        · rw [wi_in z.1 z.2, yr_to (by omega)]
        · exact if_neg z)
      refine br_f (nI_ge (b := 4000) (by omega) (by decide)) (br_t (nI_le (by omega) (by omega)) ?_)
      refine br_f (by decide) ?_
      rw [lN_i]
      exact hp u w c Z.1 Z.2
    | succ d ih =>
      intro t c u w ht I
      refine br_f (nI_ge (b := 4000) (by omega) (by decide)) ?_
      have done : (∀ i j, wi_w (tb_Y R C c) t t i j = 0) → wY_torsion_83 post (wY_torsion_47 post (d + 1)) (lN (2 ^ w)) (nI t) (nI t) (-1) (nI R) (nI C) has now pl c si := by
        intro hz
        have Z := dg_zero I hz
        refine br_f (by decide) ?_
        rw [lN_i]
        exact hp u w c Z.1 Z.2
      by_cases tR : R ≤ t
      · refine br_t (nI_le tR (by omega)) (done (fun i j => ?_))
        by_cases z : t ≤ i ∧ t ≤ j
        · rw [wi_in z.1 z.2, yr_to (by omega)]
        · exact if_neg z
      refine br_f (nI_ge (by omega) (by omega)) ?_
      by_cases tC : C ≤ t
      · refine br_t (nI_le tC (by omega)) (done (fun i j => ?_))
        by_cases z : t ≤ i ∧ t ≤ j
        · rw [wi_in z.1 z.2, yr_to (by omega)]
        · exact if_neg z
      refine br_f (nI_ge (by omega) (by omega)) ?_
      have tR' : t < R := by omega
      have tC' : t < C := by omega
      have B : ∀ i j, t ≤ i → i < R → t ≤ j → j < C → -2 ≤ (c (20 * i + j)).toInt ∧ (c (20 * i + j)).toInt ≤ 2 := fun i j i1 i2 j1 j2 => by
        have := rk_M_e I.1 i j
        rwa [wi_in i1 j1, yr_tb i2 j2] at this
      refine yk_small hR hC tR' tC' B (fun hz => done (fun i j => ?_)) (fun p q p1 p2 q1 q2 ne hmin => ?_)
      · by_cases z : t ≤ i ∧ t ≤ j
        · rw [wi_in z.1 z.2]
          by_cases b : i < R ∧ j < C
          · rw [yr_tb b.1 b.2, hz i j z.1 b.1 z.2 b.2]
          · exact yr_to (by omega)
        · exact if_neg z
      · refine br_t (nI_pos' (by omega)) (yk_bring hR hC tR' tC' p2 q2 (fun c2 e2 => ?_))
        have hsw : ∀ i j, tb_Y R C c2 i j = tb_Y R C c (wi_sw p t i) (wi_sw q t j) := by
          intro i j
          have si := wi_sw_lt (i := i) p2 tR'
          have sj := wi_sw_lt (i := j) q2 tC'
          by_cases hi : i < R
          · by_cases hj : j < C
            · rw [yr_tb hi hj, yr_tb (si.mpr hi) (sj.mpr hj), e2 i j hi hj]
            · rw [yr_to (by omega), yr_to (by omega)]
          · rw [yr_to (by omega), yr_to (by omega)]
        have hsw2 := wi_re (r := t) (c := t) (wi_sw p t) (wi_sw q t) (fun i => wi_sw_ge p1 (Nat.le_refl t)) (fun j => wi_sw_ge q1 (Nat.le_refl t)) hsw
        have I2 := dg_re (wi_sw p t) (wi_sw q t) (wi_sw_sw p t) (wi_sw_sw q t) hsw2 I
        have swt : ∀ a, wi_sw a t t = a := fun a => by
          unfold wi_sw
          split
          · rename_i z; exact z
          · rw [if_pos rfl]
        have hat : c2 (20 * t + t) = c (20 * p + q) := by rw [e2 t t tR' tC', swt, swt]
        have hl : (c2 (20 * t + t)).toInt ≠ 0 := by rw [hat]; exact ne
        have hl0 : ¬ c2 (20 * t + t) = 0 := fun z => by rw [z, yt_l0] at hl; exact hl rfl
        have hm : ∀ i j, t ≤ i → i < R → t ≤ j → j < C → (c2 (20 * i + j)).toInt ≠ 0 → (c2 (20 * t + t)).toInt.natAbs ≤ (c2 (20 * i + j)).toInt.natAbs := fun i j i1 i2 j1 j2 ne2 => by
          rw [e2 i j i2 j2] at ne2 ⊢
          rw [hat]
          exact hmin _ _ ((wi_sw_ge p1 (Nat.le_refl t)).mpr i1) ((wi_sw_lt p2 tR').mpr i2) ((wi_sw_ge q1 (Nat.le_refl t)).mpr j1) ((wi_sw_lt q2 tC').mpr j2) ne2
        have FF := yo_F tR' tC' I2 hl hm
        obtain ⟨L, B2, Q, Q2⟩ := yo_facts tR' tC' I2 hl hm
        refine yk_reduce hR hC tR' tC' hl0 (fun i i1 i2 => ?_) (fun c3 e3 j j1 j2 => ?_) (fun c3 c4 e3 e4 => ?_)
        · obtain ⟨k, k1, k2⟩ := FF i t i1 i2 (Nat.le_refl t) tC'
          exact Int64.toInt_inj.mp (by rw [k2, k1, Int.mul_comm, Int.sub_self, yt_l0])
        · have r3 : ∀ j, j < C → c3 (20 * t + j) = c2 (20 * t + j) := fun j hj => by rw [e3 t j (by omega) (by omega), if_neg (by omega)]
          obtain ⟨k, k1, k2, k3, k4⟩ := Q2 j (by omega) j2
          have b1 := B2 t j (Nat.le_refl t) tR' (by omega) j2
          have b2 := B2 t t (Nat.le_refl t) tR' (Nat.le_refl t) tC'
          unfold yk_G
          rw [r3 j j2, r3 t tC']
          apply Int64.toInt_inj.mp
          rw [yo_cr b1.1 b1.2 (by omega) (by omega) b2.1 b2.2, k4, k1, Int.mul_comm, Int.sub_self, yt_l0]
        · obtain ⟨t1, t2⟩ := yo_turn hR hC tR' tC' I2 hl hm e3 e4
          have e21 : (21 : Int32) * nI t = nI (20 * t + t) := by
            rw [show (21 : Int32) * nI t = nI (21 * t) from (Int32.ofNat_mul 21 t).symm, show 21 * t = 20 * t + t by omega]
          refine br_f (by decide) ?_
          rw [e21, xt_cl (by omega) (by omega), t1]
          have vi : vp_in (nI (20 * t + t)) 400 := xt_vi (by omega) (by omega)
          refine ⟨vi, ?_⟩
          have one : ∀ a : Int64, a * 1 = a := fun a => by grind
          rcases t2 with ⟨a, s⟩ | ⟨a, s⟩
          · have nx := ih (t + 1) c4 (u + 1) w (by omega) s
            rcases yo_cases (Or.inl rfl) a with q | q
            · rw [q]
              refine br_t (by decide) ⟨vi, fun y ey z ez x ex => ?_⟩
              rw [ey, ez, ex, nI_1, show lN 1 = 1 from rfl, one]
              exact nx
            · rw [q]
              refine br_f (by decide) ⟨vi, fun y ey z ez x ex => ?_⟩
              rw [ey, ez, ex, nI_1, show -(- lN 1) = (1 : Int64) from by decide, one]
              exact nx
          · have nx := ih (t + 1) c4 u (w + 1) (by omega) s
            rcases yo_cases (Or.inr rfl) a with q | q
            · rw [q]
              refine br_t (by decide) ⟨vi, fun y ey z ez x ex => ?_⟩
              rw [ey, ez, ex, nI_1, show lN 2 = 2 from rfl, yo_mul]
              exact nx
            · rw [q]
              refine br_f (by decide) ⟨vi, fun y ey z ez x ex => ?_⟩
              rw [ey, ez, ex, nI_1, show -(- lN 2) = (2 : Int64) from by decide, yo_mul]
              exact nx
  have w0 : wi_w (tb_Y R C ta) 0 0 = tb_Y R C ta := by
    funext i j
    exact wi_in (Nat.zero_le i) (Nat.zero_le j)
  have := l 21 0 ta 0 0 rfl (by rw [w0]; exact dg_0 hM)
  exact ⟨22, this⟩
theorem i_vc_torsion {k : Nat} {u : SX} {v : SY} (I : i_Rel k u v) (hk : k + 5 ≤ 2560) (v1 : Int32) (v2 : Int32) : wpX_torsion (fun r u' => wpY_torsion (fun r' v' => r' = r ∧ i_Rel (k + 5) u' v') v v1 v2) u v1 v2 := by
  obtain ⟨lev, held, place, cells⟩ := u
  obtain ⟨rw, cl, has, now, pl, ta, si⟩ := v
  have I : re_R lev held place has := I
  unfold wpX_torsion wpY_torsion
  dsimp only
  rcases rg_cases v1 with hb | ⟨r, hr, rfl⟩
  · exact xs_reg_bad hb (br_t rfl (ys_reg_bad hb (br_t rfl ⟨rfl, I⟩)))
  refine xs_reg hr (br_f (by decide) ?_)
  rcases rg_deg v2 with hb | ⟨n, hn, rfl⟩
  · exact xs_deg_bad hb (br_t rfl (ys_reg hr (br_f (by decide) (ys_in_bad hb (br_t rfl ⟨rfl, I⟩)))))
  have J := I.2.2 r hr
  refine xs_deg hn (br_f (by decide) ⟨vp_in_nI hr (by decide), ?_⟩)
  rw [xs_cl (by omega), nI_1]
  refine xt_write I.2.1 (by omega) (fun c1 h1 => ?_)
  refine xk_make (tb_X_M h1) (fun c2 R0 R2 hd => ?_)
  refine xv_prod hd ?_
  have R0' := tb_X_R h1 R0
  have R2' := tb_X_R h1 R2
  refine ys_reg hr (br_f (by decide) (ys_dg hn (br_f (by decide) ?_)))
  by_cases n5 : n = 5
  · refine br_t (by rw [n5]; rfl) ⟨?_, I⟩
    have z := rk_uni R0' (rk_R_zero li_p0 (fun i j => by rw [yf_S6 _ (by omega)]; exact Int.dvd_zero _))
    have w0 : cn_c (xk_n c2 2) 20 = 0 := by omega
    rw [w0]
    rfl
  · refine br_f (fun z => n5 ((nI_eq (b := 5) (by omega) (by decide)).mp z)) (yf_look hr J.2 (fun now' hN => ?_))
    refine yt_make (by omega) hN (fun R C pl' ta' ok hz => ?_)
    obtain ⟨hR, hC, hrk, hM, hb⟩ := ok
    refine yo_tors hR hC hM (fun u w c' Q0 Q2 => ⟨?_, I⟩)
    have a := rk_uni (hrk 0 _ Q0) R0'
    have b := rk_uni (hrk 2 _ Q2) R2'
    have c : w = cn_c (xk_n c2 2) 20 := by omega
    rw [c]
