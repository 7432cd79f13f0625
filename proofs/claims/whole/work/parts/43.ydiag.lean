/-! the reference's diagonal -/
def yk_K (ta : Nat → Int64) (t R C : Nat) (Sc : Nat → Nat → Prop) (found : Int32) : Prop := (found = -1 ∧ ∀ i j, t ≤ i → i < R → t ≤ j → j < C → Sc i j → (ta (20 * i + j)).toInt = 0) ∨ ∃ p c, t ≤ p ∧ p < R ∧ t ≤ c ∧ c < C ∧ found = nI (20 * p + c) ∧ (ta (20 * p + c)).toInt ≠ 0 ∧ ∀ i j, t ≤ i → i < R → t ≤ j → j < C → Sc i j → (ta (20 * i + j)).toInt ≠ 0 → (ta (20 * p + c)).toInt.natAbs ≤ (ta (20 * i + j)).toInt.natAbs
theorem yk_mono {ta : Nat → Int64} {t R C : Nat} {Sc Sd : Nat → Nat → Prop} {found : Int32} (h : ∀ i j, t ≤ i → i < R → t ≤ j → j < C → Sd i j → Sc i j) (K : yk_K ta t R C Sc found) : yk_K ta t R C Sd found := by
  rcases K with ⟨a, d⟩ | ⟨p, c, h1, h2, h3, h4, e, ne, d⟩
  · exact Or.inl ⟨a, fun i j i1 i2 j1 j2 s => d i j i1 i2 j1 j2 (h i j i1 i2 j1 j2 s)⟩
  · exact Or.inr ⟨p, c, h1, h2, h3, h4, e, ne, fun i j i1 i2 j1 j2 s => d i j i1 i2 j1 j2 (h i j i1 i2 j1 j2 s)⟩
theorem yk_small {post : Int32 → Prop} {R C : Nat} {has now pl si : Nat → Int32} {ta : Nat → Int64} {t : Nat} (hR : R ≤ 20) (hC : C ≤ 20) (ht : t < R) (htC : t < C) (hb : ∀ i j, t ≤ i → i < R → t ≤ j → j < C → -2 ≤ (ta (20 * i + j)).toInt ∧ (ta (20 * i + j)).toInt ≤ 2) (h0 : (∀ i j, t ≤ i → i < R → t ≤ j → j < C → (ta (20 * i + j)).toInt = 0) → post (-1)) (hp : ∀ p c, t ≤ p → p < R → t ≤ c → c < C → (ta (20 * p + c)).toInt ≠ 0 → (∀ i j, t ≤ i → i < R → t ≤ j → j < C → (ta (20 * i + j)).toInt ≠ 0 → (ta (20 * p + c)).toInt.natAbs ≤ (ta (20 * i + j)).toInt.natAbs) → post (nI (20 * p + c))) : wpY_smallest post (nI R, nI C, has, now, pl, ta, si) (nI t) := by
  have l : ∀ d r found, r + d = R → t ≤ r → yk_K ta t R C (fun i _ => i < r) found → wY_smallest_4 post (nI t) (nI R) (nI C) has now pl ta si (d + 1) found (nI r) := by
    intro d
    induction d with
    | zero =>
      intro r found hr _ K
      have e : r = R := by omega
      subst e
      refine br_t (nI_le (Nat.le_refl r) (by omega)) ?_
      rcases K with ⟨a, d⟩ | ⟨p, c, h1, h2, h3, h4, e, ne, d⟩
      · rw [a]; exact h0 (fun i j i1 i2 j1 j2 => d i j i1 i2 j1 j2 i2)
      · rw [e]; exact hp p c h1 h2 h3 h4 ne (fun i j i1 i2 j1 j2 => d i j i1 i2 j1 j2 i2)
    | succ d ih =>
      intro r found hr htr K
      have hrR : r < R := by omega
      refine br_f (nI_ge (by omega) (by omega)) ?_
      have l2 : ∀ d2 x found, x + d2 = C → t ≤ x → yk_K ta t R C (fun i j => i < r ∨ (i = r ∧ j < x)) found → wY_smallest_15 post (wY_smallest_4 post (nI t) (nI R) (nI C) has now pl ta si (d + 1)) (nI t) (nI r) (nI R) (nI C) has now pl ta si (d2 + 1) found (nI x) := by
        intro d2
        induction d2 with
        | zero =>
          intro x found hx _ K
          have e : x = C := by omega
          subst e
          refine br_t (nI_le (Nat.le_refl x) (by omega)) (fun y ey => ?_)
          rw [ey, nI_1]
          exact ih (r + 1) found (by omega) (by omega) (yk_mono (fun i j _ _ _ j2 s => by omega) K)
        | succ d2 ih2 =>
          intro x found hx htx K
          have hxC : x < C := by omega
          have b := hb r x htr hrR htx hxC
          refine br_f (nI_ge (by omega) (by omega)) ?_
          rw [yt_ix, xt_cl (by omega) (by omega)]
          have vi : vp_in (nI (20 * r + x)) 400 := xt_vi (by omega) (by omega)
          have next : ∀ found', yk_K ta t R C (fun i j => i < r ∨ (i = r ∧ j < x + 1)) found' → wY_smallest_15 post (wY_smallest_4 post (nI t) (nI R) (nI C) has now pl ta si (d + 1)) (nI t) (nI r) (nI R) (nI C) has now pl ta si (d2 + 1) found' (nI (x + 1)) := fun found' K' => ih2 (x + 1) found' (by omega) (by omega) K'
          -- the new place
          have new : (ta (20 * r + x)).toInt ≠ 0 → (∀ i j, t ≤ i → i < R → t ≤ j → j < C → (i < r ∨ (i = r ∧ j < x)) → (ta (20 * i + j)).toInt ≠ 0 → (ta (20 * r + x)).toInt.natAbs ≤ (ta (20 * i + j)).toInt.natAbs) → wY_smallest_118 post (wY_smallest_4 post (nI t) (nI R) (nI C) has now pl ta si (d + 1)) (wY_smallest_15 post (wY_smallest_4 post (nI t) (nI R) (nI C) has now pl ta si (d + 1)) (nI t) (nI r) (nI R) (nI C) has now pl ta si (d2 + 1)) (nI t) (nI r) (nI x) (nI R) (nI C) has now pl ta si := by
            intro ne hmin y ey z ez
            rw [ey, ez, nI_1, yt_ix]
            refine next _ (Or.inr ⟨r, x, htr, hrR, htx, hxC, rfl, ne, fun i j i1 i2 j1 j2 s ne2 => ?_⟩)
            by_cases e : i = r ∧ j = x
            · rw [e.1, e.2]; exact Nat.le_refl _
            · exact hmin i j i1 i2 j1 j2 (by omega) ne2
          have same : ((ta (20 * r + x)).toInt ≠ 0 → ∃ p c, t ≤ p ∧ p < R ∧ t ≤ c ∧ c < C ∧ found = nI (20 * p + c) ∧ (ta (20 * p + c)).toInt.natAbs ≤ (ta (20 * r + x)).toInt.natAbs) → yk_K ta t R C (fun i j => i < r ∨ (i = r ∧ j < x + 1)) found := by
            intro hle
            rcases K with ⟨a, d⟩ | ⟨p, c, h1, h2, h3, h4, e, ne, d⟩
            · refine Or.inl ⟨a, fun i j i1 i2 j1 j2 s => ?_⟩
              by_cases e : i = r ∧ j = x
              · rw [e.1, e.2]
                apply Classical.byContradiction
                intro ne
                obtain ⟨p, c, p1, p2, p3, p4, p5, _⟩ := hle ne
                rw [a] at p5
                have q : (nI (20 * p + c)) < 0 := by rw [← p5]; decide
                exact nI_pos (by omega) q
              · exact d i j i1 i2 j1 j2 (by omega)
            · refine Or.inr ⟨p, c, h1, h2, h3, h4, e, ne, fun i j i1 i2 j1 j2 s ne2 => ?_⟩
              by_cases q : i = r ∧ j = x
              · rw [q.1, q.2] at ne2 ⊢
                obtain ⟨p', c', p1, p2, p3, p4, p5, p6⟩ := hle ne2
                rw [e] at p5
                have := (nI_eq (by omega) (by omega)).mp p5
                have e1 : p = p' := by omega
                have e2 : c = c' := by omega
                rw [e1, e2]; exact p6
              · exact d i j i1 i2 j1 j2 (by omega) ne2
          have go : ∀ z : Int64, z.toInt = ((ta (20 * r + x)).toInt.natAbs : Int) → wY_smallest_69 post (wY_smallest_4 post (nI t) (nI R) (nI C) has now pl ta si (d + 1)) (wY_smallest_15 post (wY_smallest_4 post (nI t) (nI R) (nI C) has now pl ta si (d + 1)) (nI t) (nI r) (nI R) (nI C) has now pl ta si (d2 + 1)) (nI t) found (nI r) (nI x) z (nI R) (nI C) has now pl ta si := by
            intro z hz
            have fin : ∀ w7 : Int64, (found = -1 ∨ ∃ p c, t ≤ p ∧ p < R ∧ t ≤ c ∧ c < C ∧ found = nI (20 * p + c) ∧ w7.toInt = ((ta (20 * p + c)).toInt.natAbs : Int)) → wY_smallest_99 post (wY_smallest_4 post (nI t) (nI R) (nI C) has now pl ta si (d + 1)) (wY_smallest_15 post (wY_smallest_4 post (nI t) (nI R) (nI C) has now pl ta si (d + 1)) (nI t) (nI r) (nI R) (nI C) has now pl ta si (d2 + 1)) (nI t) found (nI r) (nI x) z w7 (nI R) (nI C) has now pl ta si := by
              intro w7 hw7
              by_cases z0 : z = 0
              · refine br_t z0 (fun y ey => ?_)
                rw [ey, nI_1]
                refine next found (same (fun ne => ?_))
                rw [z0, yt_l0] at hz
                omega
              · have ne : (ta (20 * r + x)).toInt ≠ 0 := fun q => z0 (Int64.toInt_inj.mp (by rw [hz, q, yt_l0]; rfl))
                refine br_f z0 ?_
                rcases K with ⟨a, d⟩ | ⟨p, c, h1, h2, h3, h4, e, nep, d⟩
                · exact br_t (by rw [a]; decide) (new ne (fun i j i1 i2 j1 j2 s ne2 => absurd (d i j i1 i2 j1 j2 s) ne2))
                · refine br_f (by rw [e]; exact nI_pos (by omega)) ?_
                  have w7e : w7.toInt = ((ta (20 * p + c)).toInt.natAbs : Int) := by
                    rcases hw7 with q | ⟨p', c', p1, p2, p3, p4, p5, p6⟩
                    · exfalso
                      rw [e] at q
                      have q2 : (nI (20 * p + c)) < 0 := by rw [q]; decide
                      exact nI_pos (by omega) q2
                    · rw [e] at p5
                      have := (nI_eq (by omega) (by omega)).mp p5
                      have e1 : p = p' := by omega
                      have e2 : c = c' := by omega
                      rw [e1, e2]; exact p6
                  by_cases le : w7 ≤ z
                  · refine br_t le (fun y ey => ?_)
                    rw [ey, nI_1]
                    rw [Int64.le_iff_toInt_le, w7e, hz] at le
                    exact next found (same (fun _ => ⟨p, c, h1, h2, h3, h4, e, by omega⟩))
                  · rw [Int64.le_iff_toInt_le, w7e, hz] at le
                    exact br_f (fun q => by rw [Int64.le_iff_toInt_le, w7e, hz] at q; exact le q) (new ne (fun i j i1 i2 j1 j2 s ne2 => by
                      have := d i j i1 i2 j1 j2 s ne2
                      omega))
            by_cases f0 : 0 ≤ found
            · refine br_t f0 ?_
              rcases (show (∃ p c, t ≤ p ∧ p < R ∧ t ≤ c ∧ c < C ∧ found = nI (20 * p + c)) by
                rcases K with ⟨a, d⟩ | ⟨p, c, h1, h2, h3, h4, e, nep, d⟩
                · rw [a] at f0; exact absurd f0 (by decide)
                · exact ⟨p, c, h1, h2, h3, h4, e⟩) with ⟨p, c, h1, h2, h3, h4, e⟩
              have bp := hb p c h1 h2 h3 h4
              rw [e, xt_cl (by omega) (by omega)]
              refine ⟨xt_vi (by omega) (by omega), ?_⟩
              by_cases s0 : 0 ≤ ta (20 * p + c)
              · have s1 := s0
                rw [Int64.le_iff_toInt_le, yt_l0] at s1
                rw [← e]
                exact br_t s0 (fin _ (Or.inr ⟨p, c, h1, h2, h3, h4, e, by omega⟩))
              · have s1 := s0
                rw [Int64.le_iff_toInt_le, yt_l0] at s1
                rw [← e]
                refine br_f s0 (fun y ey => ?_)
                rw [ey]
                exact fin _ (Or.inr ⟨p, c, h1, h2, h3, h4, e, by rw [nu_NEG (by omega) (by omega)]; omega⟩)
            · refine br_f f0 ?_
              have fm : found = -1 := by
                rcases K with ⟨a, d⟩ | ⟨p, c, h1, h2, h3, h4, e, nep, d⟩
                · exact a
                · exfalso
                  apply f0
                  rw [e]; exact nI_pos' (by omega)
              exact br_t (by decide) (fin 0 (Or.inl fm))
          refine ⟨vi, ?_⟩
          by_cases s0 : 0 ≤ ta (20 * r + x)
          · have s1 := s0
            rw [Int64.le_iff_toInt_le, yt_l0] at s1
            exact br_t s0 ⟨vi, go _ (by omega)⟩
          · have s1 := s0
            rw [Int64.le_iff_toInt_le, yt_l0] at s1
            exact br_f s0 ⟨vi, go _ (by rw [nu_NEG (by omega) (by omega)]; omega)⟩
      exact ⟨C - t + 1, l2 (C - t) t found (by omega) (Nat.le_refl t) (yk_mono (fun i j _ _ _ _ s => by omega) K)⟩
  exact ⟨R - t + 1, l (R - t) t (-1) (by omega) (Nat.le_refl t) (Or.inl ⟨rfl, fun i j i1 i2 j1 j2 s => by omega⟩)⟩
theorem yk_bring {post : SY → Prop} {R C : Nat} {has now pl si : Nat → Int32} {ta : Nat → Int64} {t p q : Nat} (hR : R ≤ 20) (hC : C ≤ 20) (ht : t < R) (htC : t < C) (hp2 : p < R) (hq : q < C) (hp : ∀ c', (∀ i j, i < R → j < C → c' (20 * i + j) = ta (20 * wi_sw p t i + wi_sw q t j)) → post (nI R, nI C, has, now, pl, c', si)) : wpY_bring post (nI R, nI C, has, now, pl, ta, si) (nI (20 * p + q)) (nI t) := by
  unfold wpY_bring
  dsimp only
  rw [xk_p (by omega) (by omega)]
  refine ⟨by decide, yr_exch hC (by omega) (by omega) (fun c1 e1 => ?_)⟩
  have l : ∀ d x w, x + d = R → (∀ i j, i < 20 → j < 20 → w (20 * i + j) = if i < x then c1 (20 * i + wi_sw q t j) else c1 (20 * i + j)) → wY_bring_11 post (nI (20 * p + q)) (nI t) (nI R) (nI C) (d + 1) (nI x) has now pl w si := by
    intro d
    induction d with
    | zero =>
      intro x w hx h
      have e : x = R := by omega
      subst e
      refine br_t (nI_le (Nat.le_refl x) (by omega)) (hp w (fun i j hi hj => ?_))
      have hsw := (wi_sw_lt (i := j) hq htC).mpr hj
      rw [h i j (by omega) (by omega), if_pos hi, e1 i _ (by omega) (by omega), if_pos hsw]
    | succ d ih =>
      intro x w hx h
      have hx20 : x < 20 := by omega
      refine br_f (nI_ge (by omega) (by omega)) ?_
      rw [xk_c (by omega) (by omega), yt_ix, yt_ix, xt_cl hx20 (show q < 20 by omega), xt_cl hx20 (show t < 20 by omega)]
      refine ⟨by decide, xt_vi hx20 (by omega), fun y ey => ⟨by decide, xt_vi hx20 (by omega), xt_vi hx20 (by omega), fun w1 f1 => ⟨xt_vi hx20 (by omega), fun w2 f2 z ez => ?_⟩⟩⟩
      rw [ez, nI_1]
      refine ih (x + 1) w2 (by omega) (fun i j hi hj => ?_)
      rw [f2, f1, ey]
      by_cases ei : i = x
      · subst ei
        rw [if_pos (by omega)]
        by_cases jt : j = t
        · subst jt
          rw [xs_uLs, h i q hi (by omega), if_neg (by omega)]
          congr 1
          unfold wi_sw
          split <;> simp_all
        · rw [xs_uLn (by omega)]
          by_cases jq : j = q
          · subst jq
            rw [xs_uLs, h i t hi (by omega), if_neg (by omega)]
            congr 1
            unfold wi_sw
            simp
          · rw [xs_uLn (by omega), h i j hi hj, if_neg (by omega)]
            congr 1
            unfold wi_sw
            simp [jt, jq]
      · rw [xs_uLn (by omega), xs_uLn (by omega), h i j hi hj]
        by_cases g : i < x
        · rw [if_pos g, if_pos (by omega)]
        · rw [if_neg g, if_neg (by omega)]
  exact ⟨R + 1, l R 0 c1 (by omega) (fun i j _ _ => by rw [if_neg (by omega)])⟩
def yk_F (c : Nat → Int64) (a : Int64) (t i j : Nat) : Int64 := c (20 * i + j) - c (20 * i + t) / a * c (20 * t + j)
def yk_G (c : Nat → Int64) (a : Int64) (t i j : Nat) : Int64 := c (20 * i + j) - c (20 * t + j) / a * c (20 * i + t)
theorem yk_reduce {post : Int32 → SY → Prop} {R C : Nat} {has now pl si : Nat → Int32} {ta : Nat → Int64} {t : Nat} (hR : R ≤ 20) (hC : C ≤ 20) (ht : t < R) (htC : t < C) (ha : ¬ ta (20 * t + t) = 0) (hF : ∀ i, t < i → i < R → yk_F ta (ta (20 * t + t)) t i t = 0) (hG : ∀ c3, (∀ i j, i < 20 → j < 20 → c3 (20 * i + j) = if t < i ∧ i < R ∧ t ≤ j ∧ j < C then yk_F ta (ta (20 * t + t)) t i j else ta (20 * i + j)) → ∀ j, t < j → j < C → yk_G c3 (ta (20 * t + t)) t t j = 0) (hp : ∀ c3 c4, (∀ i j, i < 20 → j < 20 → c3 (20 * i + j) = if t < i ∧ i < R ∧ t ≤ j ∧ j < C then yk_F ta (ta (20 * t + t)) t i j else ta (20 * i + j)) → (∀ i j, i < 20 → j < 20 → c4 (20 * i + j) = if t < j ∧ j < C ∧ t ≤ i ∧ i < R then yk_G c3 (ta (20 * t + t)) t i j else c3 (20 * i + j)) → post 1 (nI R, nI C, has, now, pl, c4, si)) : wpY_reduce post (nI R, nI C, has, now, pl, ta, si) (nI t) := by
  have ht20 : t < 20 := by omega
  -- the columns
  have m : ∀ c3, (∀ i j, i < 20 → j < 20 → c3 (20 * i + j) = if t < i ∧ i < R ∧ t ≤ j ∧ j < C then yk_F ta (ta (20 * t + t)) t i j else ta (20 * i + j)) → ∀ d x w, x + d = C → t < x → (∀ i j, i < 20 → j < 20 → w (20 * i + j) = if t < j ∧ j < x ∧ t ≤ i ∧ i < R then yk_G c3 (ta (20 * t + t)) t i j else c3 (20 * i + j)) → wY_reduce_137 post (nI t) (ta (20 * t + t)) (nI R) (nI C) (d + 1) 1 (nI x) has now pl w si := by
    intro c3 h3 d
    induction d with
    | zero =>
      intro x w hx h1 h
      have e : x = C := by omega
      subst e
      exact br_t (nI_le (Nat.le_refl x) (by omega)) ⟨nb_1, hp c3 w h3 h⟩
    | succ d ih =>
      intro x w hx h1 h
      have hx20 : x < 20 := by omega
      refine br_f (nI_ge (by omega) (by omega)) ?_
      rw [yt_ix, xt_cl ht20 hx20]
      refine ⟨xt_vi ht20 hx20, ha, fun f ef => ?_⟩
      rw [h t x ht20 hx20, if_neg (by omega)] at ef
      have l2 : ∀ d2 y w2, y + d2 = R → t ≤ y → (∀ i j, i < 20 → j < 20 → w2 (20 * i + j) = if (t < j ∧ j < x ∧ t ≤ i ∧ i < R) ∨ (j = x ∧ t ≤ i ∧ i < y) then yk_G c3 (ta (20 * t + t)) t i j else c3 (20 * i + j)) → wY_reduce_166 post (wY_reduce_137 post (nI t) (ta (20 * t + t)) (nI R) (nI C) (d + 1)) (nI t) (ta (20 * t + t)) 1 (nI x) f (nI R) (nI C) (d2 + 1) (nI y) has now pl w2 si := by
        intro d2
        induction d2 with
        | zero =>
          intro y w2 hy hcy h2
          have e : y = R := by omega
          subst e
          refine br_t (nI_le (Nat.le_refl y) (by omega)) ?_
          rw [yt_ix, xt_cl ht20 hx20]
          refine ⟨xt_vi ht20 hx20, br_t ?_ (fun z ez => ?_)⟩
          · rw [h2 t x ht20 hx20, if_pos (by omega)]
            exact hG c3 h3 x h1 (by omega)
          · rw [ez, nI_1]
            refine ih (x + 1) w2 (by omega) (by omega) (fun i j hi hj => ?_)
            rw [h2 i j hi hj]
            by_cases q : t < j ∧ j < x + 1 ∧ t ≤ i ∧ i < y
            · rw [if_pos q, if_pos (by omega)]
            · rw [if_neg q, if_neg (by omega)]
        | succ d2 ih2 =>
          intro y w2 hy hcy h2
          have hy20 : y < 20 := by omega
          refine br_f (nI_ge (by omega) (by omega)) ?_
          rw [yt_ix, yt_ix, xt_cl hy20 hx20, xt_cl hy20 ht20]
          refine ⟨xt_vi hy20 hx20, xt_vi hy20 ht20, xt_vi hy20 hx20, fun w3 e3 z ez => ?_⟩
          rw [ez, nI_1]
          rw [h2 y x hy20 hx20, h2 y t hy20 ht20, if_neg (by omega), if_neg (by omega), ef] at e3
          refine ih2 (y + 1) w3 (by omega) (by omega) (fun i j hi hj => ?_)
          rw [e3]
          by_cases eij : i = y ∧ j = x
          · rw [eij.1, eij.2, xs_uLs, if_pos (by omega)]
            rfl
          · rw [xs_uLn (by omega), h2 i j hi hj]
            by_cases q : (t < j ∧ j < x ∧ t ≤ i ∧ i < R) ∨ (j = x ∧ t ≤ i ∧ i < y)
            · rw [if_pos q, if_pos (by omega)]
            · rw [if_neg q, if_neg (by omega)]
      refine ⟨R - t + 1, l2 (R - t) t w (by omega) (Nat.le_refl t) (fun i j hi hj => ?_)⟩
      rw [h i j hi hj]
      by_cases q : t < j ∧ j < x ∧ t ≤ i ∧ i < R
      · rw [if_pos q, if_pos (Or.inl q)]
      · rw [if_neg q, if_neg (by omega)]
  -- the rows
  have l : ∀ d x w, x + d = R → t < x → (∀ i j, i < 20 → j < 20 → w (20 * i + j) = if t < i ∧ i < x ∧ t ≤ j ∧ j < C then yk_F ta (ta (20 * t + t)) t i j else ta (20 * i + j)) → wY_reduce_31 post (nI t) (ta (20 * t + t)) (nI R) (nI C) (d + 1) 1 (nI x) has now pl w si := by
    intro d
    induction d with
    | zero =>
      intro x w hx h1 h
      have e : x = R := by omega
      subst e
      refine br_t (nI_le (Nat.le_refl x) (by omega)) (fun y ey => ?_)
      rw [ey, nI_1]
      exact ⟨C - (t + 1) + 1, m w h (C - (t + 1)) (t + 1) w (by omega) (by omega) (fun i j hi hj => by rw [if_neg (by omega)])⟩
    | succ d ih =>
      intro x w hx h1 h
      have hx20 : x < 20 := by omega
      refine br_f (nI_ge (by omega) (by omega)) ?_
      rw [yt_ix, xt_cl hx20 ht20]
      refine ⟨xt_vi hx20 ht20, ha, fun f ef => ?_⟩
      rw [h x t hx20 ht20, if_neg (by omega)] at ef
      have l2 : ∀ d2 y w2, y + d2 = C → t ≤ y → (∀ i j, i < 20 → j < 20 → w2 (20 * i + j) = if (t < i ∧ i < x ∧ t ≤ j ∧ j < C) ∨ (i = x ∧ t ≤ j ∧ j < y) then yk_F ta (ta (20 * t + t)) t i j else ta (20 * i + j)) → wY_reduce_60 post (wY_reduce_31 post (nI t) (ta (20 * t + t)) (nI R) (nI C) (d + 1)) (nI t) (ta (20 * t + t)) 1 (nI x) f (nI R) (nI C) (d2 + 1) (nI y) has now pl w2 si := by
        intro d2
        induction d2 with
        | zero =>
          intro y w2 hy hcy h2
          have e : y = C := by omega
          subst e
          refine br_t (nI_le (Nat.le_refl y) (by omega)) ?_
          rw [yt_ix, xt_cl hx20 ht20]
          refine ⟨xt_vi hx20 ht20, br_t ?_ (fun z ez => ?_)⟩
          · rw [h2 x t hx20 ht20, if_pos (by omega)]
            exact hF x h1 (by omega)
          · rw [ez, nI_1]
            refine ih (x + 1) w2 (by omega) (by omega) (fun i j hi hj => ?_)
            rw [h2 i j hi hj]
            by_cases q : t < i ∧ i < x + 1 ∧ t ≤ j ∧ j < y
            · rw [if_pos q, if_pos (by omega)]
            · rw [if_neg q, if_neg (by omega)]
        | succ d2 ih2 =>
          intro y w2 hy hcy h2
          have hy20 : y < 20 := by omega
          refine br_f (nI_ge (by omega) (by omega)) ?_
          rw [yt_ix, yt_ix, xt_cl hx20 hy20, xt_cl ht20 hy20]
          refine ⟨xt_vi hx20 hy20, xt_vi ht20 hy20, xt_vi hx20 hy20, fun w3 e3 z ez => ?_⟩
          rw [ez, nI_1]
          rw [h2 x y hx20 hy20, h2 t y ht20 hy20, if_neg (by omega), if_neg (by omega), ef] at e3
          refine ih2 (y + 1) w3 (by omega) (by omega) (fun i j hi hj => ?_)
          rw [e3]
          by_cases eij : i = x ∧ j = y
          · rw [eij.1, eij.2, xs_uLs, if_pos (by omega)]
            rfl
          · rw [xs_uLn (by omega), h2 i j hi hj]
            by_cases q : (t < i ∧ i < x ∧ t ≤ j ∧ j < C) ∨ (i = x ∧ t ≤ j ∧ j < y)
            · rw [if_pos q, if_pos (by omega)]
            · rw [if_neg q, if_neg (by omega)]
      refine ⟨C - t + 1, l2 (C - t) t w (by omega) (Nat.le_refl t) (fun i j hi hj => ?_)⟩
      rw [h i j hi hj]
      by_cases q : t < i ∧ i < x ∧ t ≤ j ∧ j < C
      · rw [if_pos q, if_pos (Or.inl q)]
      · rw [if_neg q, if_neg (by omega)]
  have e21 : (21 : Int32) * nI t = nI (20 * t + t) := by
    rw [show (21 : Int32) * nI t = nI (21 * t) from (Int32.ofNat_mul 21 t).symm, show 21 * t = 20 * t + t by omega]
  unfold wpY_reduce
  dsimp only
  rw [e21, xt_cl ht20 ht20]
  refine ⟨xt_vi ht20 ht20, fun y ey => br_f (by rw [ey]; exact ha) (fun z ez => ?_)⟩
  rw [ey, ez, nI_1]
  exact ⟨R - (t + 1) + 1, l (R - (t + 1)) (t + 1) ta (by omega) (by omega) (fun i j hi hj => by rw [if_neg (by omega)])⟩
