/-! X's elimination modulo a prime -/
theorem xm_lt {i : Nat} (h : i < 20) : ¬ (20 : Int32) ≤ nI i := nI_ge (b := 20) h (by decide)
theorem xm_ge : (20 : Int32) ≤ nI 20 := nI_le (a := 20) (b := 20) (by omega) (by decide)
theorem xm_row {post : Int32 → Prop} {lev : Int32} {held : Nat → Int64} {place cells : Nat → Int32} {f c : Nat} (hf : f ≤ 20) (hc : c < 20) (hp : ∀ r, f ≤ r → r ≤ 20 → (∀ i, f ≤ i → i < r → cells (20 * i + c) = 0) → (r < 20 → cells (20 * r + c) ≠ 0) → post (nI r)) : wpX_rowWithEntry post (lev, held, place, cells) (nI f) (nI c) := by
  have l : ∀ d r, r + d = 20 → f ≤ r → (∀ i, f ≤ i → i < r → cells (20 * i + c) = 0) → wX_rowWithEntry_2 post (nI c) lev held place cells (d + 1) (nI r) := by
    intro d
    induction d with
    | zero =>
      intro r hr h1 h2
      have e : r = 20 := by omega
      subst e
      exact br_t xm_ge (hp 20 h1 (Nat.le_refl 20) h2 (fun z => absurd z (by omega)))
    | succ d ih =>
      intro r hr h1 h2
      have hr20 : r < 20 := by omega
      refine br_f (xm_lt hr20) ?_
      rw [xt_ix, xt_cl hr20 hc]
      refine ⟨xt_vi hr20 hc, ?_⟩
      by_cases z : cells (20 * r + c) = 0
      · refine br_t z (fun y ey => ?_)
        rw [ey, nI_1]
        exact ih (r + 1) (by omega) (by omega) (fun i i1 i2 => by
          by_cases e : i = r
          · rw [e]; exact z
          · exact h2 i i1 (by omega))
      · exact br_f z (hp r h1 (by omega) h2 (fun _ => z))
  exact ⟨20 - f + 1, l (20 - f) f (by omega) (Nat.le_refl f) (fun i i1 i2 => by omega)⟩
theorem xm_swapR {post : SX → Prop} {lev : Int32} {held : Nat → Int64} {place cells : Nat → Int32} {a b : Nat} (ha : a < 20) (hb : b < 20) (hp : ∀ c', (∀ i j, i < 20 → j < 20 → c' (20 * i + j) = cells (20 * wi_sw a b i + j)) → post (lev, held, place, c')) : wpX_swapRows post (lev, held, place, cells) (nI a) (nI b) := by
  have l : ∀ d x c, x + d = 20 → (∀ i j, i < 20 → j < 20 → c (20 * i + j) = if j < x then cells (20 * wi_sw a b i + j) else cells (20 * i + j)) → wX_swapRows_2 post (nI a) (nI b) lev (d + 1) (nI x) held place c := by
    intro d
    induction d with
    | zero =>
      intro x c hx h
      have e : x = 20 := by omega
      subst e
      exact br_t xm_ge (hp c (fun i j hi hj => by rw [h i j hi hj, if_pos hj]))
    | succ d ih =>
      intro x c hx h
      have hx20 : x < 20 := by omega
      refine br_f (xm_lt hx20) ?_
      rw [xt_ix, xt_ix, xt_cl ha hx20, xt_cl hb hx20]
      refine ⟨xt_vi ha hx20, fun y ey => ⟨xt_vi hb hx20, xt_vi ha hx20, fun c1 e1 => ⟨xt_vi hb hx20, fun c2 e2 z ez => ?_⟩⟩⟩
      rw [ez, nI_1]
      refine ih (x + 1) c2 (by omega) (fun i j hi hj => ?_)
      rw [e2, e1, ey]
      by_cases ej : j = x
      · subst ej
        rw [if_pos (by omega)]
        by_cases ib : i = b
        · subst ib
          rw [xs_us, h a j ha hj, if_neg (by omega)]
          congr 1
          unfold wi_sw
          split <;> simp_all
        · rw [xs_un (by omega)]
          by_cases ia : i = a
          · subst ia
            rw [xs_us, h b j hb hj, if_neg (by omega)]
            congr 1
            unfold wi_sw
            simp
          · rw [xs_un (by omega), h i j hi hj, if_neg (by omega)]
            congr 1
            unfold wi_sw
            simp [ia, ib]
      · rw [xs_un (by omega), xs_un (by omega), h i j hi hj]
        by_cases q : j < x
        · rw [if_pos q, if_pos (by omega)]
        · rw [if_neg q, if_neg (by omega)]
  exact ⟨21, l 20 0 cells rfl (fun i j _ _ => by rw [if_neg (by omega)])⟩
theorem xm_swapC {post : SX → Prop} {lev : Int32} {held : Nat → Int64} {place cells : Nat → Int32} {a b : Nat} (ha : a < 20) (hb : b < 20) (hp : ∀ c', (∀ i j, i < 20 → j < 20 → c' (20 * i + j) = cells (20 * i + wi_sw a b j)) → post (lev, held, place, c')) : wpX_swapColumns post (lev, held, place, cells) (nI a) (nI b) := by
  have l : ∀ d x c, x + d = 20 → (∀ i j, i < 20 → j < 20 → c (20 * i + j) = if i < x then cells (20 * i + wi_sw a b j) else cells (20 * i + j)) → wX_swapColumns_2 post (nI a) (nI b) lev (d + 1) (nI x) held place c := by
    intro d
    induction d with
    | zero =>
      intro x c hx h
      have e : x = 20 := by omega
      subst e
      exact br_t xm_ge (hp c (fun i j hi hj => by rw [h i j hi hj, if_pos hi]))
    | succ d ih =>
      intro x c hx h
      have hx20 : x < 20 := by omega
      refine br_f (xm_lt hx20) ?_
      rw [xt_ix, xt_ix, xt_cl hx20 ha, xt_cl hx20 hb]
      refine ⟨xt_vi hx20 ha, fun y ey => ⟨xt_vi hx20 hb, xt_vi hx20 ha, fun c1 e1 => ⟨xt_vi hx20 hb, fun c2 e2 z ez => ?_⟩⟩⟩
      rw [ez, nI_1]
      refine ih (x + 1) c2 (by omega) (fun i j hi hj => ?_)
      rw [e2, e1, ey]
      by_cases ej : i = x
      · subst ej
        rw [if_pos (by omega)]
        by_cases ib : j = b
        · subst ib
          rw [xs_us, h i a hi ha, if_neg (by omega)]
          congr 1
          unfold wi_sw
          split <;> simp_all
        · rw [xs_un (by omega)]
          by_cases ia : j = a
          · subst ia
            rw [xs_us, h i b hi hb, if_neg (by omega)]
            congr 1
            unfold wi_sw
            simp
          · rw [xs_un (by omega), h i j hi hj, if_neg (by omega)]
            congr 1
            unfold wi_sw
            simp [ia, ib]
      · rw [xs_un (by omega), xs_un (by omega), h i j hi hj]
        by_cases q : i < x
        · rw [if_pos q, if_pos (by omega)]
        · rw [if_neg q, if_neg (by omega)]
  exact ⟨21, l 20 0 cells rfl (fun i j _ _ => by rw [if_neg (by omega)])⟩
/-- a crossed entry and its rest -/
def xm_y (cells : Nat → Int32) (t c i j : Nat) : Int32 := cells (20 * t + c) * cells (20 * i + j) - cells (20 * i + c) * cells (20 * t + j)
def xm_E (cells : Nat → Int32) (t c : Nat) (p : Int32) (i j : Nat) : Int32 := xm_y cells t c i j - xm_y cells t c i j / p * p
theorem xm_clear {post : SX → Prop} {lev : Int32} {held : Nat → Int64} {place cells : Nat → Int32} {t c : Nat} {p : Int32} (ht : t < 20) (hc : c < 20) (hp0 : ¬ p = 0) (hp : ∀ c', (∀ i j, i < 20 → j < 20 → c' (20 * i + j) = if t < i ∧ c ≤ j then xm_E cells t c p i j else cells (20 * i + j)) → post (lev, held, place, c')) : wpX_clearBelow post (lev, held, place, cells) (nI t) (nI c) p := by
  have l : ∀ d x w, x + d = 20 → t < x → (∀ i j, i < 20 → j < 20 → w (20 * i + j) = if t < i ∧ i < x ∧ c ≤ j then xm_E cells t c p i j else cells (20 * i + j)) → wX_clearBelow_18 post (nI t) (nI c) p (cells (20 * t + c)) lev (d + 1) (nI x) held place w := by
    intro d
    induction d with
    | zero =>
      intro x w hx h1 h
      have e : x = 20 := by omega
      subst e
      refine br_t xm_ge (hp w (fun i j hi hj => ?_))
      rw [h i j hi hj]
      by_cases q : t < i ∧ c ≤ j
      · rw [if_pos ⟨q.1, hi, q.2⟩, if_pos q]
      · rw [if_neg (fun z => q ⟨z.1, z.2.2⟩), if_neg q]
    | succ d ih =>
      intro x w hx h1 h
      have hx20 : x < 20 := by omega
      refine br_f (xm_lt hx20) ?_
      rw [xt_ix, xt_cl hx20 hc]
      refine ⟨xt_vi hx20 hc, fun f ef => ?_⟩
      have ef2 : f = cells (20 * x + c) := by rw [ef, h x c hx20 hc, if_neg (by omega)]
      have l2 : ∀ d2 y w2, y + d2 = 20 → c ≤ y → (∀ i j, i < 20 → j < 20 → w2 (20 * i + j) = if (t < i ∧ i < x ∧ c ≤ j) ∨ (i = x ∧ c ≤ j ∧ j < y) then xm_E cells t c p i j else cells (20 * i + j)) → wX_clearBelow_42 post (wX_clearBelow_18 post (nI t) (nI c) p (cells (20 * t + c)) lev (d + 1)) (nI t) (nI c) p (cells (20 * t + c)) (nI x) f lev (d2 + 1) (nI y) held place w2 := by
        intro d2
        induction d2 with
        | zero =>
          intro y w2 hy hcy h2
          have e : y = 20 := by omega
          subst e
          refine br_t xm_ge (fun z ez => ?_)
          rw [ez, nI_1]
          refine ih (x + 1) w2 (by omega) (by omega) (fun i j hi hj => ?_)
          rw [h2 i j hi hj]
          by_cases q : t < i ∧ i < x + 1 ∧ c ≤ j
          · rw [if_pos q, if_pos (by omega)]
          · rw [if_neg q, if_neg (by omega)]
        | succ d2 ih2 =>
          intro y w2 hy hcy h2
          have hy20 : y < 20 := by omega
          refine br_f (xm_lt hy20) ?_
          rw [xt_ix, xt_ix, xt_cl hx20 hy20, xt_cl ht hy20]
          refine ⟨xt_vi hx20 hy20, xt_vi ht hy20, fun g eg => ⟨hp0, xt_vi hx20 hy20, fun w3 e3 z ez => ?_⟩⟩
          rw [ez, nI_1]
          have eg2 : g = xm_y cells t c x y := by
            rw [eg, h2 x y hx20 hy20, h2 t y ht hy20, if_neg (by omega), if_neg (by omega), ef2]
            rfl
          refine ih2 (y + 1) w3 (by omega) (by omega) (fun i j hi hj => ?_)
          rw [e3]
          by_cases eij : i = x ∧ j = y
          · rw [eij.1, eij.2, xs_us, if_pos (by omega), eg2]
            rfl
          · rw [xs_un (by omega), h2 i j hi hj]
            by_cases q : (t < i ∧ i < x ∧ c ≤ j) ∨ (i = x ∧ c ≤ j ∧ j < y)
            · rw [if_pos q, if_pos (by omega)]
            · rw [if_neg q, if_neg (by omega)]
      refine ⟨20 - c + 1, l2 (20 - c) c w (by omega) (Nat.le_refl c) (fun i j hi hj => ?_)⟩
      rw [h i j hi hj]
      by_cases q : t < i ∧ i < x ∧ c ≤ j
      · rw [if_pos q, if_pos (Or.inl q)]
      · rw [if_neg q, if_neg (by omega)]
  unfold wpX_clearBelow
  dsimp only
  rw [xt_ix, xt_cl ht hc]
  refine ⟨xt_vi ht hc, fun y ey z ez => ?_⟩
  rw [ey, ez, nI_1]
  exact ⟨20 - (t + 1) + 1, l (20 - (t + 1)) (t + 1) cells (by omega) (by omega) (fun i j hi hj => by rw [if_neg (by omega)])⟩
theorem xm_yT {cells : Nat → Int32} {t c i j : Nat} {q : Int} (hq : q ≤ 2000) (ht : t < 20) (hc : c < 20) (hi : i < 20) (hj : j < 20) (hb : ∀ i j, i < 20 → j < 20 → -q ≤ (cells (20 * i + j)).toInt ∧ (cells (20 * i + j)).toInt ≤ q) : (xm_y cells t c i j).toInt = (cells (20 * t + c)).toInt * (cells (20 * i + j)).toInt - (cells (20 * i + c)).toInt * (cells (20 * t + j)).toInt := by
  have b1 := hb t c ht hc
  have b2 := hb i j hi hj
  have b3 := hb i c hi hc
  have b4 := hb t j ht hj
  have p1 := nu_pr (m := 2000) (show -2000 ≤ _ by omega) (show (cells (20 * t + c)).toInt ≤ 2000 by omega) (show -2000 ≤ _ by omega) (show (cells (20 * i + j)).toInt ≤ 2000 by omega)
  have p2 := nu_pr (m := 2000) (show -2000 ≤ _ by omega) (show (cells (20 * i + c)).toInt ≤ 2000 by omega) (show -2000 ≤ _ by omega) (show (cells (20 * t + j)).toInt ≤ 2000 by omega)
  unfold xm_y
  rw [nu_sub, nu_mul (by omega) (by omega), nu_mul (by omega) (by omega)]
  · rw [nu_mul (by omega) (by omega), nu_mul (by omega) (by omega)]; omega
  · rw [nu_mul (by omega) (by omega), nu_mul (by omega) (by omega)]; omega
theorem xm_rank {post : Int32 → SX → Prop} {lev : Int32} {held : Nat → Int64} {place cells : Nat → Int32} {p : Int32} {q : Int} (hpq : p.toInt = q) (hq : rk_P q) (q2 : 2 ≤ q) (q3 : q ≤ 2000) (hb : ∀ i j, i < 20 → j < 20 → -q < (cells (20 * i + j)).toInt ∧ (cells (20 * i + j)).toInt < q) (hp : ∀ r c', r ≤ 20 → rk_R q (tb_X cells) r → post (nI r) (lev, held, place, c')) : wpX_rankModulo post (lev, held, place, cells) p := by
  have hp0 : ¬ p = 0 := fun z => by
    rw [z] at hpq
    have : (0 : Int32).toInt = 0 := by decide
    omega
  have zero : ∀ {A : Nat → Nat → Int}, (∀ i j, A i j = 0) → rk_R q A 0 := fun h => rk_R_zero hq (fun i j => by rw [h]; exact Int.dvd_zero _)
  have l : ∀ d r c w, c + d = 20 → r ≤ 20 → (∀ i j, i < 20 → j < 20 → -q < (w (20 * i + j)).toInt ∧ (w (20 * i + j)).toInt < q) → (∀ s, rk_R q (wi_w (tb_X w) r c) s → rk_R q (tb_X cells) (r + s)) → wX_rankModulo_4 post p (d + 1) (nI r) (nI c) lev held place w := by
    intro d
    induction d with
    | zero =>
      intro r c w hc hr _ h
      have e : c = 20 := by omega
      subst e
      refine br_t xm_ge (hp r w hr ?_)
      have := h 0 (zero (fun i j => by
        by_cases z : r ≤ i ∧ 20 ≤ j
        · rw [wi_in z.1 z.2]; unfold tb_X; rw [if_neg (by omega)]
        · exact if_neg z))
      rwa [Nat.add_zero] at this
    | succ d ih =>
      intro r c w hc hr hw h
      have hc20 : c < 20 := by omega
      refine br_f (xm_lt hc20) ?_
      by_cases r20 : r = 20
      · subst r20
        refine br_t xm_ge (hp 20 w hr ?_)
        have := h 0 (zero (fun i j => by
          by_cases z : 20 ≤ i ∧ c ≤ j
          · rw [wi_in z.1 z.2]; unfold tb_X; rw [if_neg (by omega)]
          · exact if_neg z))
        rwa [Nat.add_zero] at this
      have hr20 : r < 20 := by omega
      refine br_f (xm_lt hr20) (xm_row hr hc20 (fun t h1 h2 h3 h4 => ?_))
      by_cases t20 : t = 20
      · subst t20
        refine br_t xm_ge (fun y ey => ?_)
        rw [ey, nI_1]
        refine ih r (c + 1) w (by omega) hr hw (fun s hs => h s ?_)
        rw [wi_col (fun i hi => ?_)]
        · exact hs
        · unfold tb_X
          by_cases z : i < 20 ∧ c < 20
          · rw [if_pos z, h3 i hi z.1]; rfl
          · rw [if_neg z]
      · have ht20 : t < 20 := by omega
        refine br_f (xm_lt ht20) (xm_swapR hr20 ht20 (fun w1 e1 => ?_))
        refine xm_clear hr20 hc20 hp0 (fun w2 e2 => ?_)
        intro y ey z ez
        rw [ey, ez, nI_1, nI_1]
        have hw1 : ∀ i j, i < 20 → j < 20 → -q < (w1 (20 * i + j)).toInt ∧ (w1 (20 * i + j)).toInt < q := fun i j hi hj => by
          rw [e1 i j hi hj]
          exact hw _ _ ((wi_sw_lt hr20 ht20).mpr hi) hj
        have hw1' : ∀ i j, i < 20 → j < 20 → -q ≤ (w1 (20 * i + j)).toInt ∧ (w1 (20 * i + j)).toInt ≤ q := fun i j hi hj => by
          have := hw1 i j hi hj
          omega
        have hE : ∀ i j, i < 20 → j < 20 → (xm_E w1 r c p i j).toInt = ((w1 (20 * r + c)).toInt * (w1 (20 * i + j)).toInt - (w1 (20 * i + c)).toInt * (w1 (20 * r + j)).toInt).tmod q := fun i j hi hj => by
          unfold xm_E
          rw [rem_toInt, hpq, xm_yT q3 hr20 hc20 hi hj hw1']
        have hsw : ∀ i j, tb_X w1 i j = tb_X w (wi_sw r t i) j := by
          intro i j
          unfold tb_X
          by_cases hi : i < 20
          · by_cases hj : j < 20
            · rw [if_pos ⟨hi, hj⟩, if_pos ⟨(wi_sw_lt hr20 ht20).mpr hi, hj⟩, e1 i j hi hj]
            · rw [if_neg (fun z => hj z.2), if_neg (fun z => hj z.2)]
          · rw [if_neg (fun z => hi z.1), if_neg (fun z => hi ((wi_sw_lt hr20 ht20).mp z.1))]
        refine ih (r + 1) (c + 1) w2 (by omega) (by omega) (fun i j hi hj => ?_) (fun s hs => ?_)
        · rw [e2 i j hi hj]
          by_cases g : r < i ∧ c ≤ j
          · rw [if_pos g, hE i j hi hj]
            exact tmod_bounds (by omega)
          · rw [if_neg g]; exact hw1 i j hi hj
        · have lead : tb_X w1 r c = (w1 (20 * r + c)).toInt := by unfold tb_X; rw [if_pos ⟨hr20, hc20⟩]
          have nz : ¬ q ∣ wi_w (tb_X w1) r c r c := by
            rw [wi_in (Nat.le_refl r) (Nat.le_refl c), lead]
            have ne : w1 (20 * r + c) ≠ 0 := by
              rw [e1 r c hr20 hc20]
              have : wi_sw r t r = t := by unfold wi_sw; rw [if_pos rfl]
              rw [this]
              exact h4 ht20
            have ne2 : (w1 (20 * r + c)).toInt ≠ 0 := fun z => ne (Int32.toInt_inj.mp (by rw [z]; rfl))
            have b := hw1 r c hr20 hc20
            rintro ⟨m, hm⟩
            rw [hm] at ne2 b
            by_cases m0 : m = 0
            · rw [m0, Int.mul_zero] at ne2; exact ne2 rfl
            · by_cases mp : 0 < m
              · have : q * 1 ≤ q * m := Int.mul_le_mul_of_nonneg_left (by omega) (by omega)
                rw [Int.mul_one] at this
                omega
              · have : q * m ≤ q * (-1) := Int.mul_le_mul_of_nonneg_left (by omega) (by omega)
                rw [Int.mul_neg, Int.mul_one] at this
                omega
          have hm : ∀ i j, r < i → c < j → q ∣ tb_X w2 i j - (tb_X w1 r c * tb_X w1 i j - tb_X w1 i c * tb_X w1 r j) := by
            intro i j hi hj
            by_cases hij : i < 20 ∧ j < 20
            · have x2 : tb_X w2 i j = (w2 (20 * i + j)).toInt := by unfold tb_X; rw [if_pos hij]
              have x1 : tb_X w1 i j = (w1 (20 * i + j)).toInt := by unfold tb_X; rw [if_pos hij]
              have x3 : tb_X w1 i c = (w1 (20 * i + c)).toInt := by unfold tb_X; rw [if_pos ⟨hij.1, hc20⟩]
              have x4 : tb_X w1 r j = (w1 (20 * r + j)).toInt := by unfold tb_X; rw [if_pos ⟨hr20, hij.2⟩]
              rw [x2, x1, x3, x4, lead, e2 i j hij.1 hij.2, if_pos ⟨hi, by omega⟩, hE i j hij.1 hij.2]
              generalize (w1 (20 * r + c)).toInt * (w1 (20 * i + j)).toInt - (w1 (20 * i + c)).toInt * (w1 (20 * r + j)).toInt = g
              rw [Int.tmod_def]
              exact ⟨- g.tdiv q, by rw [Int.mul_neg]; omega⟩
            · have x2 : tb_X w2 i j = 0 := by unfold tb_X; rw [if_neg hij]
              have x1 : tb_X w1 i j = 0 := by unfold tb_X; rw [if_neg hij]
              have x3 : tb_X w1 i c * tb_X w1 r j = 0 := by
                by_cases i20 : i < 20
                · have : tb_X w1 r j = 0 := by unfold tb_X; rw [if_neg (by omega)]
                  rw [this, Int.mul_zero]
                · have : tb_X w1 i c = 0 := by unfold tb_X; rw [if_neg (by omega)]
                  rw [this, Int.zero_mul]
              rw [x2, x1, x3, Int.mul_zero]
              exact Int.dvd_zero q
          have R1 := rk_R_m hq nz (wi_Vm hm) hs
          have R2 : rk_R q (wi_w (tb_X w) r c) (s + 1) := wi_R_re (wi_sw r t) (fun j => j) (wi_sw_sw r t) (fun _ => rfl) (wi_re (wi_sw r t) (fun j => j) (fun i => wi_sw_ge (Nat.le_refl r) h1) (fun _ => Iff.rfl) hsw) R1
          have := h (s + 1) R2
          rw [show r + 1 + s = r + (s + 1) by omega]
          exact this
  refine ⟨21, l 20 0 0 cells rfl (by omega) hb (fun s hs => ?_)⟩
  rw [Nat.zero_add]
  have : wi_w (tb_X cells) 0 0 = tb_X cells := by
    funext i j
    exact wi_in (Nat.zero_le i) (Nat.zero_le j)
  rwa [this] at hs
