/-! elimination without fractions -/
theorem yf_clear {post : SY → Prop} {R C : Nat} {has now pl si : Nat → Int32} {ta : Nat → Int64} {t c : Nat} {last : Int64} (hR : R ≤ 20) (hC : C ≤ 20) (ht : t < R) (hc : c < C) (hl : ¬ last = 0) (hp : ∀ c', (∀ i j, i < 20 → j < 20 → c' (20 * i + j) = if t < i ∧ i < R ∧ j < C then (yr_y ta t c i j) / last else ta (20 * i + j)) → post (nI R, nI C, has, now, pl, c', si)) : wpY_clearFractions post (nI R, nI C, has, now, pl, ta, si) (nI t) (nI c) last := by
  have ht20 : t < 20 := by omega
  have hc20 : c < 20 := by omega
  have l : ∀ d x w, x + d = R → t < x → (∀ i j, i < 20 → j < 20 → w (20 * i + j) = if t < i ∧ i < x ∧ j < C then (yr_y ta t c i j) / last else ta (20 * i + j)) → wY_clearFractions_31 post (nI t) (nI c) (ta (20 * t + c)) last (nI R) (nI C) (d + 1) (nI x) has now pl w si := by
    intro d
    induction d with
    | zero =>
      intro x w hx h1 h
      have e : x = R := by omega
      subst e
      exact br_t (nI_le (Nat.le_refl x) (by omega)) (hp w h)
    | succ d ih =>
      intro x w hx h1 h
      have hx20 : x < 20 := by omega
      refine br_f (nI_ge (by omega) (by omega)) ?_
      rw [yt_ix, xt_cl hx20 hc20]
      refine ⟨xt_vi hx20 hc20, fun f ef => ?_⟩
      rw [h x c hx20 hc20, if_neg (by omega)] at ef
      have l2 : ∀ d2 y w2, y + d2 = C → (∀ i j, i < 20 → j < 20 → w2 (20 * i + j) = if (t < i ∧ i < x ∧ j < C) ∨ (i = x ∧ j < y) then (yr_y ta t c i j) / last else ta (20 * i + j)) → wY_clearFractions_57 post (wY_clearFractions_31 post (nI t) (nI c) (ta (20 * t + c)) last (nI R) (nI C) (d + 1)) (nI t) (nI c) (ta (20 * t + c)) last (nI x) f (nI R) (nI C) (d2 + 1) (nI y) has now pl w2 si := by
        intro d2
        induction d2 with
        | zero =>
          intro y w2 hy h2
          have e : y = C := by omega
          subst e
          refine br_t (nI_le (Nat.le_refl y) (by omega)) (fun z ez => ?_)
          rw [ez, nI_1]
          refine ih (x + 1) w2 (by omega) (by omega) (fun i j hi hj => ?_)
          rw [h2 i j hi hj]
          by_cases q : t < i ∧ i < x + 1 ∧ j < y
          · rw [if_pos q, if_pos (by omega)]
          · rw [if_neg q, if_neg (by omega)]
        | succ d2 ih2 =>
          intro y w2 hy h2
          have hy20 : y < 20 := by omega
          refine br_f (nI_ge (by omega) (by omega)) ?_
          rw [yt_ix, yt_ix, xt_cl hx20 hy20, xt_cl ht20 hy20]
          refine ⟨xt_vi hx20 hy20, xt_vi ht20 hy20, hl, xt_vi hx20 hy20, fun w3 e3 z ez => ?_⟩
          rw [ez, nI_1]
          rw [h2 x y hx20 hy20, h2 t y ht20 hy20, if_neg (by omega), if_neg (by omega), ef] at e3
          refine ih2 (y + 1) w3 (by omega) (fun i j hi hj => ?_)
          rw [e3]
          by_cases eij : i = x ∧ j = y
          · rw [eij.1, eij.2, xs_uLs, if_pos (Or.inr ⟨rfl, by omega⟩)]
            rfl
          · rw [xs_uLn (by omega), h2 i j hi hj]
            by_cases q : (t < i ∧ i < x ∧ j < C) ∨ (i = x ∧ j < y)
            · rw [if_pos q, if_pos (by omega)]
            · rw [if_neg q, if_neg (by omega)]
      refine ⟨C + 1, l2 C 0 w (by omega) (fun i j hi hj => ?_)⟩
      rw [h i j hi hj]
      by_cases q : t < i ∧ i < x ∧ j < C
      · rw [if_pos q, if_pos (Or.inl q)]
      · rw [if_neg q, if_neg (by omega)]
  unfold wpY_clearFractions
  dsimp only
  rw [yt_ix, xt_cl ht20 hc20]
  refine ⟨xt_vi ht20 hc20, fun y ey => br_f hl (fun z ez => ?_)⟩
  rw [ey, ez, nI_1]
  exact ⟨R - (t + 1) + 1, l (R - (t + 1)) (t + 1) ta (by omega) (by omega) (fun i j hi hj => by rw [if_neg (by omega)])⟩
theorem yf_ex {x a : Int64} {k : Int} (ha : a.toInt ≠ 0) (e : x.toInt = a.toInt * k) (h1 : -1000 ≤ k) (h2 : k ≤ 1000) : (x / a).toInt = k := by
  rw [Int64.toInt_div, e, Int.mul_tdiv_cancel_left _ ha]
  exact nu_B (by omega) (by omega)
theorem yf_rank {post : Int32 → SY → Prop} {R C : Nat} {has now pl si : Nat → Int32} {ta : Nat → Int64} (hR : R ≤ 20) (hC : C ≤ 20) (hM : rk_M 2 (tb_Y R C ta)) (hp : ∀ r c', rk_R 0 (tb_Y R C ta) r → post (nI r) (nI R, nI C, has, now, pl, c', si)) : wpY_rankOfFractions post (nI R, nI C, has, now, pl, ta, si) := by
  have zero : ∀ {A : Nat → Nat → Int}, (∀ i j, A i j = 0) → rk_R 0 A 0 := fun h => rk_R_zero li_p0 (fun i j => by rw [h]; exact Int.dvd_zero _)
  have l : ∀ d r c w last, c + d = C → r ≤ R → last.toInt ≠ 0 → rk_Q last.toInt (wi_w (tb_Y R C w) r c) → (∀ s, rk_R 0 (wi_w (tb_Y R C w) r c) s → rk_R 0 (tb_Y R C ta) (r + s)) → wY_rankOfFractions_7 post (d + 1) (nI r) last (nI c) (nI R) (nI C) has now pl w si := by
    intro d
    induction d with
    | zero =>
      intro r c w last hc hr _ _ h
      have e : c = C := by omega
      subst e
      refine br_t (nI_le (Nat.le_refl c) (by omega)) (hp r w ?_)
      have := h 0 (zero (fun i j => by
        by_cases z : r ≤ i ∧ c ≤ j
        · rw [wi_in z.1 z.2, yr_to (by omega)]
        · exact if_neg z))
      rwa [Nat.add_zero] at this
    | succ d ih =>
      intro r c w last hc hr hl hQ h
      have hc20 : c < 20 := by omega
      have hl0 : ¬ last = 0 := fun z => by rw [z, yt_l0] at hl; exact hl rfl
      refine br_f (nI_ge (by omega) (by omega)) (fun y ey => ?_)
      rw [ey, yr_m2 R (by omega)]
      have l2 : ∀ d2 k found, k = r + d2 → k ≤ R → yr_F w R c k found → wY_rankOfFractions_27 post (wY_rankOfFractions_7 post (d + 1)) (nI r) last (nI c) (nI R) (nI C) has now pl w si (d2 + 1) found (nI k + (-1)) := by
        intro d2
        induction d2 with
        | zero =>
          intro k found hk hkR hF
          have e : k = r := by omega
          subst e
          refine br_t ((yr_m1 k (by omega) k (by omega)).mpr (Nat.le_refl k)) ?_
          rcases hF with ⟨e1, e2⟩ | ⟨f, f1, f2, f3, f4⟩
          · refine br_t (by rw [e1]; decide) (fun y ey => ?_)
            rw [ey, nI_1]
            have wc := wi_col (A := tb_Y R C w) (r := k) (c := c) (fun i hi => by
              by_cases z : i < R
              · rw [yr_tb z (by omega), e2 i hi z, yt_l0]
              · exact yr_to (by omega))
            rw [wc] at hQ h
            exact ih k (c + 1) w last (by omega) hr hl hQ h
          · have kR : k < R := by omega
            refine br_f (by rw [f3]; exact nI_pos (by omega)) ?_
            rw [f3]
            refine yr_exch hC (by omega) (by omega) (fun w1 e1 => ?_)
            refine yf_clear hR hC kR (by omega) hl0 (fun w2 e2 => ?_)
            have hsw := yr_swT hR hC f2 kR e1
            have hsw2 := wi_re (r := k) (c := c) (wi_sw f k) (fun j => j) (fun i => wi_sw_ge f1 (Nat.le_refl k)) (fun _ => Iff.rfl) hsw
            have hQ1 : rk_Q last.toInt (wi_w (tb_Y R C w1) k c) := wi_Q_re _ _ hsw2 hQ
            have w2k : w2 (20 * k + c) = w1 (20 * k + c) := by rw [e2 k c (by omega) hc20, if_neg (by omega)]
            rw [yt_ix, xt_cl (by omega) hc20]
            refine ⟨xt_vi (by omega) hc20, fun last' el y ey z ez => ?_⟩
            rw [ey, ez, nI_1, nI_1]
            have lead : wi_w (tb_Y R C w1) k c k c = (w1 (20 * k + c)).toInt := by rw [wi_in (Nat.le_refl k) (Nat.le_refl c), yr_tb kR (by omega)]
            have ne : w1 (20 * k + c) ≠ 0 := by
              rw [e1 k c (by omega) hc20, if_pos (by omega)]
              have : wi_sw f k k = f := by
                unfold wi_sw
                split
                · rename_i z; exact z
                · rw [if_pos rfl]
              rw [this]
              exact f4
            have ne2 : (w1 (20 * k + c)).toInt ≠ 0 := fun z => ne (Int64.toInt_inj.mp (by rw [z, yt_l0]))
            have ell : last'.toInt = wi_w (tb_Y R C w1) k c k c := by rw [el, w2k, lead]
            have hin : ∀ i j, k ≤ i → i < R → c ≤ j → j < C → wi_w (tb_Y R C w1) k c i j = (w1 (20 * i + j)).toInt := fun i j i1 i2 j1 j2 => by rw [wi_in i1 j1, yr_tb i2 j2]
            have hV := wi_V (A := tb_Y R C w1) (B := tb_Y R C w2) (r := k) (c := c) (e := last.toInt) (fun i j hi hj => by
              by_cases iR : i < R
              · by_cases jC : j < C
                · obtain ⟨m, m1, m2, me⟩ := rk_Q_2 hQ1 k c i j
                  rw [hin k c (Nat.le_refl k) kR (Nat.le_refl c) (by omega), hin i j (by omega) iR (by omega) jC, hin i c (by omega) iR (Nat.le_refl c) (by omega), hin k j (Nat.le_refl k) kR (by omega) jC] at me
                  have b1 := rk_Q_e hQ1 k c
                  have b2 := rk_Q_e hQ1 i j
                  have b3 := rk_Q_e hQ1 i c
                  have b4 := rk_Q_e hQ1 k j
                  rw [hin k c (Nat.le_refl k) kR (Nat.le_refl c) (by omega)] at b1
                  rw [hin i j (by omega) iR (by omega) jC] at b2
                  rw [hin i c (by omega) iR (Nat.le_refl c) (by omega)] at b3
                  rw [hin k j (Nat.le_refl k) kR (by omega) jC] at b4
                  have ey : (yr_y w1 k c i j).toInt = last.toInt * m := by
                    rw [← me]
                    unfold yr_y
                    rw [yr_cross (m := 2) (by omega) (by omega) (by omega) (by omega) (by omega), Int.mul_comm (w1 (20 * i + j)).toInt, Int.mul_comm (w1 (20 * k + j)).toInt]
                  rw [yr_tb (c := w2) iR jC, yr_tb (c := w1) kR (show c < C by omega), yr_tb (c := w1) iR jC, yr_tb (c := w1) iR (show c < C by omega), yr_tb (c := w1) kR jC, me, e2 i j (by omega) (by omega), if_pos ⟨hi, iR, jC⟩, yf_ex hl ey (by omega) (by omega)]
                · rw [yr_to (c := w2) (by omega), yr_to (c := w1) (i := i) (j := j) (by omega), yr_to (c := w1) (i := k) (j := j) (by omega), Int.mul_zero, Int.mul_zero, Int.mul_zero]; rfl
              · rw [yr_to (c := w2) (by omega), yr_to (c := w1) (i := i) (j := j) (by omega), yr_to (c := w1) (i := i) (j := c) (by omega), Int.mul_zero, Int.mul_zero, Int.zero_mul]; rfl)
            refine ih (k + 1) (c + 1) w2 last' (by omega) (by omega) (by rw [ell, lead]; exact ne2) ?_ (fun s hs => ?_)
            · rw [ell]
              exact rk_Q_step hl (by rw [lead]; exact ne2) hV hQ1
            · have R1 := rk_R_V li_p0 (by rw [lead, Int.zero_dvd]; exact ne2) (by rw [Int.zero_dvd]; exact hl) hV hs
              have R2 : rk_R 0 (wi_w (tb_Y R C w) k c) (s + 1) := wi_R_re (wi_sw f k) (fun j => j) (wi_sw_sw f k) (fun _ => rfl) hsw2 R1
              have := h (s + 1) R2
              rw [show k + 1 + s = k + (s + 1) by omega]
              exact this
        | succ d2 ih2 =>
          intro k found hk hkR hF
          have k1 : 1 ≤ k := by omega
          refine br_f (fun z => by have := (yr_m1 k (by omega) r (by omega)).mp z; omega) ?_
          rw [yr_m3 k1, yt_ix, xt_cl (by omega) hc20]
          refine ⟨xt_vi (by omega) hc20, ?_⟩
          by_cases z : w (20 * (k - 1) + c) = 0
          · refine br_t z (fun y ey => ?_)
            rw [ey]
            refine ih2 (k - 1) found (by omega) (by omega) ?_
            rcases hF with ⟨e1, e2⟩ | ⟨f, f1, f2, f3, f4⟩
            · refine Or.inl ⟨e1, fun i i1 i2 => ?_⟩
              by_cases e : i = k - 1
              · rw [e]; exact z
              · exact e2 i (by omega) i2
            · exact Or.inr ⟨f, by omega, f2, f3, f4⟩
          · refine br_f z (fun y ey => ?_)
            rw [ey]
            exact ih2 (k - 1) _ (by omega) (by omega) (Or.inr ⟨k - 1, Nat.le_refl _, by omega, rfl, z⟩)
      exact ⟨R - r + 1, l2 (R - r) R (-1) (by omega) (Nat.le_refl R) (Or.inl ⟨rfl, fun i i1 i2 => by omega⟩)⟩
  have w0 : wi_w (tb_Y R C ta) 0 0 = tb_Y R C ta := by
    funext i j
    exact wi_in (Nat.zero_le i) (Nat.zero_le j)
  have one : (1 : Int64).toInt = 1 := by decide
  refine ⟨C + 1, l C 0 0 ta 1 (by omega) (by omega) (by rw [one]; decide) ?_ (fun s hs => ?_)⟩
  · rw [one, w0]; exact rk_Q_1 hM
  · rw [Nat.zero_add]
    rwa [w0] at hs
/-! rank, dimension -/
theorem yf_pT : ∀ pp, pp < 8 → (nI pp).toInt64.toInt = (pp : Int) := by decide +kernel
theorem yf_S6 (S : Nat → Bool) {k : Nat} (hk : 6 ≤ k) (i j : Nat) : ed_S S k i j = 0 := by
  have := ed_pc_le j
  exact tb_S0 (Or.inr (Or.inl (by omega)))
theorem yf_rk {post : Int32 → SY → Prop} {rw cl : Int32} {has now pl si : Nat → Int32} {ta : Nat → Int64} {S : Nat → Bool} {k pp : Nat} (hk : k ≤ 6) (hpp : pp = 0 ∨ pp = 2 ∨ pp = 3 ∨ pp = 5) (hN : yt_N now S) (hp : ∀ r rw' cl' pl' ta', rk_R (pp : Int) (ed_S S k) r → post (nI r) (rw', cl', has, now, pl', ta', si)) : wpY_rank post (rw, cl, has, now, pl, ta, si) (nI k) (nI pp) := by
  have hP : rk_P (pp : Int) := by
    rcases hpp with e | e | e | e
    · subst e; exact li_p0
    · subst e; exact li_p2
    · subst e; exact li_p3
    · subst e; exact li_p5
  by_cases k6 : k = 6
  · refine br_f (by subst k6; exact fun z => absurd ((nI_leI (a := 6) (b := 5) (by decide) (by decide)).mp z) (by omega)) (hp 0 _ _ _ _ (rk_R_zero hP (fun i j => ?_)))
    rw [yf_S6 S (by omega)]
    exact Int.dvd_zero _
  · refine br_t (nI_le (b := 5) (by omega) (by decide)) (yt_make (by omega) hN (fun R C pl' ta' ok hz => ?_))
    obtain ⟨hR, hC, hr, hM, hb⟩ := ok
    have md : ∀ q : Int, (nI pp).toInt64.toInt = q → rk_P q → 2 ≤ q → q ≤ 1000 → (pp : Int) = q → wpY_rankModulo (fun r_11 u => match u with | (a, b, c, d, e, f, g) => post r_11 (a, b, c, d, e, f, g)) (nI R, nI C, has, now, pl', ta', si) (nI pp).toInt64 := by
      intro q e1 e2 e3 e4 e5
      exact yr_rank hR hC e1 e2 e3 e4 hb (fun r c' h => hp r _ _ _ _ (by rw [e5]; exact hr q r h))
    rcases hpp with e | e | e | e
    · subst e
      exact br_t rfl (yf_rank hR hC hM (fun r c' h => hp r _ _ _ _ (hr 0 r h)))
    · subst e
      exact br_f (by decide) (md 2 (by decide) li_p2 (by decide) (by decide) rfl)
    · subst e
      exact br_f (by decide) (md 3 (by decide) li_p3 (by decide) (by decide) rfl)
    · subst e
      exact br_f (by decide) (md 5 (by decide) li_p5 (by decide) (by decide) rfl)
theorem yf_nc {post : Int32 → Prop} {rw cl : Int32} {has now pl si : Nat → Int32} {ta : Nat → Int64} {S : Nat → Bool} {n : Nat} (hn : n < 6) (hN : yt_N now S) (hp : post (nI (cn_c (tb_r S (n + 1)) 64))) : wpY_nowCount post (rw, cl, has, now, pl, ta, si) (nI n) := by
  have l : ∀ d s, s + d = 64 → 1 ≤ s → wY_nowCount_4 post (nI n) rw cl has now pl ta si (d + 1) (nI (cn_c (tb_r S (n + 1)) s)) (nI s) := by
    intro d
    induction d with
    | zero =>
      intro s hs _
      have e : s = 64 := by omega
      subst e
      exact br_t ys_ge64 hp
    | succ d ih =>
      intro s hs h1
      have hm := ih (s + 1) (by omega) (by omega)
      rw [cn_s] at hm
      have hpc := ed_pc_le s
      refine br_f (ys_lt64 (by omega)) (yt_ask hN h1 (by omega) (fun hb => ?_) (fun hb => ys_degree (by omega) ?_))
      · intro y ey
        rw [show tb_r S (n + 1) s = false by unfold tb_r; simp [hb]] at hm
        rw [ey, nI_1]
        exact hm
      · by_cases e : ed_pc s = n + 1
        · refine br_t ((ys_dk _ (by omega) n (by omega)).mpr e) (fun y ey z ez => ?_)
          rw [tb_r_ok.mpr ⟨h1, hb, e⟩] at hm
          rw [ey, ez, nI_1, nI_1]
          exact hm
        · refine br_f (fun z => e ((ys_dk _ (by omega) n (by omega)).mp z)) (fun y ey => ?_)
          rw [show tb_r S (n + 1) s = false by unfold tb_r; simp [e]] at hm
          rw [ey, nI_1]
          exact hm
  have := l 63 1 rfl (by omega)
  rw [show cn_c (tb_r S (n + 1)) 1 = 0 by rw [cn_s]; rfl] at this
  exact ⟨64, this⟩
theorem yf_dim {post : Int32 → SY → Prop} {rw cl : Int32} {has now pl si : Nat → Int32} {ta : Nat → Int64} {S : Nat → Bool} {k pp : Nat} (hk : k < 6) (hpp : pp = 0 ∨ pp = 2 ∨ pp = 3 ∨ pp = 5) (hN : yt_N now S) (hp : ∀ r1 r2 rw' cl' pl' ta', rk_R (pp : Int) (ed_S S k) r1 → rk_R (pp : Int) (ed_S S (k + 1)) r2 → post ((nI (cn_c (tb_r S (k + 1)) 64) - nI r1) - nI r2) (rw', cl', has, now, pl', ta', si)) : wpY_dimension post (rw, cl, has, now, pl, ta, si) (nI k) (nI pp) := by
  unfold wpY_dimension
  dsimp only
  rw [nI_1]
  refine yf_rk (by omega) hpp hN (fun r1 rw1 cl1 pl1 ta1 R1 => ?_)
  refine yf_rk (by omega) hpp hN (fun r2 rw2 cl2 pl2 ta2 R2 => ?_)
  exact yf_nc hk hN (hp r1 r2 rw2 cl2 pl2 ta2 R1 R2)
theorem yf_look {post : SY → Prop} {rw cl : Int32} {has now pl si : Nat → Int32} {ta : Nat → Int64} {r : Nat} {b : Nat → Bool} (hr : r < 4) (h : ys_H has r b) (hp : ∀ now', yt_N now' b → post (rw, cl, has, now', pl, ta, si)) : wpY_look post (rw, cl, has, now, pl, ta, si) (nI r) := by
  have l : ∀ d s now', s + d = 64 → 1 ≤ s → (∀ t, 1 ≤ t → t < s → now' t = if b t = true then 1 else 0) → wY_look_2 post (nI r) rw cl (d + 1) (nI s) has now' pl ta si := by
    intro d
    induction d with
    | zero =>
      intro s now' hs _ hn
      have e : s = 64 := by omega
      subst e
      exact br_t ys_ge64 (hp now' hn)
    | succ d ih =>
      intro s now' hs h1 hn
      refine br_f (ys_lt64 (by omega)) ?_
      rw [ys_ix, ys_cl hr (by omega), xs_cl (by omega)]
      refine ⟨ys_vi hr (by omega), vp_in_nI (by omega) (by decide), fun y ey z ez => ?_⟩
      rw [ey, ez, nI_1]
      refine ih (s + 1) _ (by omega) (by omega) (ys_put hn ?_)
      rw [h s h1 (by omega)]
      cases b s
      · exact nb_v0
      · exact nb_v1
  exact ⟨64, l 63 1 now rfl (by omega) (fun t t1 t2 => by omega)⟩
theorem yf_fld (p : Int32) : (¬ p = 0 ∧ ¬ p = 2 ∧ ¬ p = 3 ∧ ¬ p = 5) ∨ ∃ pp, (pp = 0 ∨ pp = 2 ∨ pp = 3 ∨ pp = 5) ∧ p = nI pp := by
  by_cases h0 : p = 0
  · exact Or.inr ⟨0, Or.inl rfl, h0⟩
  by_cases h2 : p = 2
  · exact Or.inr ⟨2, Or.inr (Or.inl rfl), h2⟩
  by_cases h3 : p = 3
  · exact Or.inr ⟨3, Or.inr (Or.inr (Or.inl rfl)), h3⟩
  by_cases h5 : p = 5
  · exact Or.inr ⟨5, Or.inr (Or.inr (Or.inr rfl)), h5⟩
  exact Or.inl ⟨h0, h2, h3, h5⟩
theorem xf_fld {post : Int32 → Prop} {pp : Nat} (h : pp = 0 ∨ pp = 2 ∨ pp = 3 ∨ pp = 5) (hp : post 1) : wpX_isField post (nI pp) := by
  rcases h with e | e | e | e
  · subst e; exact br_t rfl hp
  · subst e; exact br_f (by decide) (br_t rfl hp)
  · subst e; exact br_f (by decide) (br_f (by decide) (br_t rfl hp))
  · subst e; exact br_f (by decide) (br_f (by decide) (br_f (by decide) (br_t rfl hp)))
theorem i_vc_holes {k : Nat} {u : SX} {v : SY} (I : i_Rel k u v) (hk : k + 5 ≤ 2560) (v1 : Int32) (v2 : Int32) (v3 : Int32) : wpX_holes (fun r u' => wpY_holes (fun r' v' => r' = r ∧ i_Rel (k + 5) u' v') v v1 v2 v3) u v1 v2 v3 := by
  obtain ⟨lev, held, place, cells⟩ := u
  obtain ⟨rw, cl, has, now, pl, ta, si⟩ := v
  have I : re_R lev held place has := I
  unfold wpX_holes wpY_holes
  dsimp only
  rcases rg_cases v1 with hb | ⟨r, hr, rfl⟩
  · exact xs_reg_bad hb (br_t rfl (ys_reg_bad hb (br_t rfl ⟨rfl, I⟩)))
  refine xs_reg hr (br_f (by decide) ?_)
  rcases rg_deg v2 with hb | ⟨n, hn, rfl⟩
  · exact xs_deg_bad hb (br_t rfl (ys_reg hr (br_f (by decide) (ys_in_bad hb (br_t rfl ⟨rfl, I⟩)))))
  refine xs_deg hn (br_f (by decide) ?_)
  rcases yf_fld v3 with ⟨n0, n2, n3, n5⟩ | ⟨pp, hpp, rfl⟩
  · exact br_f n0 (br_f n2 (br_f n3 (br_f n5 (br_t rfl (ys_reg hr (br_f (by decide) (ys_dg hn (br_f (by decide) (br_f n0 (br_f n2 (br_f n3 (br_f n5 ⟨rfl, I⟩))))))))))))
  have J := I.2.2 r hr
  refine xf_fld hpp (br_f (by decide) ⟨vp_in_nI hr (by decide), ?_⟩)
  rw [xs_cl (by omega)]
  refine xv_dim I.1 I.2.1 hn hpp (fun r1 r2 c' _ _ R1 R2 => ?_)
  refine ys_reg hr (br_f (by decide) (ys_dg hn (br_f (by decide) ?_)))
  have main : wY_holes_39 (fun r' v' => r' = nI (cn_c (xs_dg (held r) (n + 1)) 64) - nI r1 - nI r2 ∧ i_Rel (k + 5) (lev, held, place, c') v') (nI r) (nI n) (nI pp) rw cl has now pl ta si := by
    refine yf_look hr J.2 (fun now' hN => yf_dim hn hpp hN (fun q1 q2 rw' cl' pl' ta' Q1 Q2 => ⟨?_, I⟩))
    rw [rk_uni Q1 R1, rk_uni Q2 R2]
    rfl
  rcases hpp with e | e | e | e
  · subst e; exact br_t rfl main
  · subst e; exact br_f (by decide) (br_t rfl main)
  · subst e; exact br_f (by decide) (br_f (by decide) (br_t rfl main))
  · subst e; exact br_f (by decide) (br_f (by decide) (br_f (by decide) (br_t rfl main)))
theorem yf_rel {post : Int32 → SY → Prop} {rw cl : Int32} {has now pl si : Nat → Int32} {ta : Nat → Int64} {a b n : Nat} {x y : Int64} (ha : a < 4) (hb : b < 4) (hn : n < 6) (h : ys_H has a (mk_b x)) (h' : ys_H has b (mk_b y)) (hp : ∀ r1 r2 rw' cl' now' pl' ta', rk_R 2 (ed_S (mk_b (x &&& (y ^^^ (-1)))) n) r1 → rk_R 2 (ed_S (mk_b (x &&& (y ^^^ (-1)))) (n + 1)) r2 → post ((nI (cn_c (tb_r (mk_b (x &&& (y ^^^ (-1)))) (n + 1)) 64) - nI r1) - nI r2) (rw', cl', has, now', pl', ta', si)) : ∃ m, wY_relative_31 post (nI a) (nI b) (nI n) rw cl m 1 has now pl ta si := by
  have bt : ∀ t, t < 64 → mk_b (x &&& (y ^^^ (-1))) t = (mk_b x t && !mk_b y t) := fun t ht => by rw [mk_and, mk_not y ht]
  have l : ∀ d s now', s + d = 64 → 1 ≤ s → (∀ t, 1 ≤ t → t < s → now' t = if mk_b (x &&& (y ^^^ (-1))) t = true then 1 else 0) → wY_relative_31 post (nI a) (nI b) (nI n) rw cl (d + 1) (nI s) has now' pl ta si := by
    intro d
    induction d with
    | zero =>
      intro s now' hs _ hN
      have e : s = 64 := by omega
      subst e
      exact br_t ys_ge64 (yf_dim (pp := 2) hn (Or.inr (Or.inl rfl)) hN (fun r1 r2 rw' cl' pl' ta' R1 R2 => hp r1 r2 rw' cl' now' pl' ta' R1 R2))
    | succ d ih =>
      intro s now' hs h1 hN
      have hs64 : s < 64 := by omega
      have hi : vp_in (nI s) 64 := vp_in_nI hs64 (by decide)
      refine br_f (ys_lt64 hs64) (ys_ask ha h1 hs64 h (fun hx => ⟨hi, fun y1 ey z ez => ?_⟩) (fun hx => ys_ask hb h1 hs64 h' (fun hy => ⟨hi, fun y1 ey z ez => ?_⟩) (fun hy => ⟨hi, fun y1 ey z ez => ?_⟩)))
      · rw [ey, ez, nI_1, xs_cl (by omega)]
        exact ih (s + 1) _ (by omega) (by omega) (ys_put hN (ys_x0 (by rw [bt s hs64, hx]; rfl)))
      · rw [ey, ez, nI_1, xs_cl (by omega)]
        exact ih (s + 1) _ (by omega) (by omega) (ys_put hN (ys_x1 (by rw [bt s hs64, hx, hy]; rfl)))
      · rw [ey, ez, nI_1, xs_cl (by omega)]
        exact ih (s + 1) _ (by omega) (by omega) (ys_put hN (ys_x0 (by rw [bt s hs64, hx, hy]; rfl)))
  exact ⟨64, l 63 1 now rfl (by omega) (fun t t1 t2 => by omega)⟩
theorem i_vc_relative {k : Nat} {u : SX} {v : SY} (I : i_Rel k u v) (hk : k + 5 ≤ 2560) (v1 : Int32) (v2 : Int32) (v3 : Int32) : wpX_relative (fun r u' => wpY_relative (fun r' v' => r' = r ∧ i_Rel (k + 5) u' v') v v1 v2 v3) u v1 v2 v3 := by
  obtain ⟨lev, held, place, cells⟩ := u
  obtain ⟨rw, cl, has, now, pl, ta, si⟩ := v
  have I : re_R lev held place has := I
  unfold wpX_relative wpY_relative
  dsimp only
  rcases rg_cases v1 with hb | ⟨a, ha, rfl⟩
  · exact xs_reg_bad hb (br_t rfl (ys_reg_bad hb (br_t rfl ⟨rfl, I⟩)))
  refine xs_reg ha (br_f (by decide) ?_)
  rcases rg_cases v2 with hb | ⟨b, hb, rfl⟩
  · exact xs_reg_bad hb (br_t rfl (ys_reg ha (br_f (by decide) (ys_reg_bad hb (br_t rfl ⟨rfl, I⟩)))))
  refine xs_reg hb (br_f (by decide) ?_)
  rcases rg_deg v3 with hn | ⟨n, hn, rfl⟩
  · exact xs_deg_bad hn (br_t rfl (ys_reg ha (br_f (by decide) (ys_reg hb (br_f (by decide) (ys_in_bad hn (br_t rfl ⟨rfl, I⟩)))))))
  have J := I.2.2 a ha
  have K := I.2.2 b hb
  refine xs_deg hn (br_f (by decide) ⟨vp_in_nI ha (by decide), vp_in_nI hb (by decide), ?_⟩)
  rw [xs_cl (j := a) (by omega), xs_cl (j := b) (by omega)]
  refine xv_dim (pp := 2) I.1 I.2.1 hn (Or.inr (Or.inl rfl)) (fun r1 r2 c' _ _ R1 R2 => ?_)
  refine ys_reg ha (br_f (by decide) (ys_reg hb (br_f (by decide) (ys_dg hn (br_f (by decide) (yf_rel ha hb hn J.2 K.2 (fun q1 q2 rw' cl' now' pl' ta' Q1 Q2 => ⟨?_, I⟩)))))))
  rw [rk_uni Q1 R1, rk_uni Q2 R2]
  rfl
