/-! X: rank and product of the diagonal, dimension -/
theorem xv_cases {x : Int32} (h : x.toInt.natAbs ≤ 2) : x = 0 ∨ x = 1 ∨ x = -1 ∨ x = 2 ∨ x = -2 := by
  have e : ∀ y : Int32, x.toInt = y.toInt → x = y := fun y hy => Int32.toInt_inj.mp hy
  have e0 : (0 : Int32).toInt = 0 := by decide
  have e1 : (1 : Int32).toInt = 1 := by decide
  have e2 : (-1 : Int32).toInt = -1 := by decide
  have e3 : (2 : Int32).toInt = 2 := by decide
  have e4 : (-2 : Int32).toInt = -2 := by decide
  rcases (show x.toInt = 0 ∨ x.toInt = 1 ∨ x.toInt = -1 ∨ x.toInt = 2 ∨ x.toInt = -2 by omega) with q | q | q | q | q
  · exact Or.inl (e 0 (by rw [q, e0]))
  · exact Or.inr (Or.inl (e 1 (by rw [q, e1])))
  · exact Or.inr (Or.inr (Or.inl (e (-1) (by rw [q, e2]))))
  · exact Or.inr (Or.inr (Or.inr (Or.inl (e 2 (by rw [q, e3])))))
  · exact Or.inr (Or.inr (Or.inr (Or.inr (e (-2) (by rw [q, e4])))))
def xv_f (pp : Nat) (c : Nat → Int32) (i : Nat) : Bool := xk_n c 1 i || (xk_n c 2 i && decide (pp ≠ 2))
theorem xv_rank {post : Int32 → Prop} {lev : Int32} {held : Nat → Int64} {place cells : Nat → Int32} {pp : Nat} (hpp : pp = 0 ∨ pp = 2 ∨ pp = 3 ∨ pp = 5) (hd : ∀ i, i < 20 → (cells (20 * i + i)).toInt.natAbs ≤ 2) (hp : post (nI (cn_c (xv_f pp cells) 20))) : wpX_diagonalRank post (lev, held, place, cells) (nI pp) := by
  have l : ∀ d t, t + d = 20 → wX_diagonalRank_4 post (nI pp) lev held place cells (d + 1) (nI (cn_c (xv_f pp cells) t)) (nI t) := by
    intro d
    induction d with
    | zero =>
      intro t ht
      have e : t = 20 := by omega
      subst e
      exact br_t xm_ge hp
    | succ d ih =>
      intro t ht
      have ht20 : t < 20 := by omega
      have hn := ih (t + 1) (by omega)
      rw [cn_s] at hn
      refine br_f (xm_lt ht20) ?_
      rw [xt_ix, xt_cl ht20 ht20]
      refine ⟨xt_vi ht20 ht20, fun x ex => ?_⟩
      have no : xv_f pp cells t = false → ∀ y, y = nI t + 1 → wX_diagonalRank_4 post (nI pp) lev held place cells (d + 1) (nI (cn_c (xv_f pp cells) t)) y := by
        intro hf y ey
        rw [hf] at hn
        rw [ey, nI_1]
        exact hn
      have yes : xv_f pp cells t = true → ∀ z, z = nI (cn_c (xv_f pp cells) t) + 1 → ∀ y, y = nI t + 1 → wX_diagonalRank_4 post (nI pp) lev held place cells (d + 1) z y := by
        intro hf z ez y ey
        rw [hf] at hn
        rw [ey, ez, nI_1, nI_1]
        exact hn
      have hv := xv_cases (hd t ht20)
      rw [← ex] at hv
      have ev : xv_f pp cells t = (decide (x.toInt.natAbs = 1) || (decide (x.toInt.natAbs = 2) && decide (pp ≠ 2))) := by rw [ex]; rfl
      rw [ev] at no yes
      rcases hpp with e | e | e | e <;> subst e <;> rcases hv with q | q | q | q | q <;> subst q <;> first
        | exact br_t (by decide) (no (by decide))
        | exact br_f (by decide) (br_t (by decide) (yes (by decide)))
        | exact br_f (by decide) (br_f (by decide) ⟨by decide, br_t (by decide) (no (by decide))⟩)
        | exact br_f (by decide) (br_f (by decide) ⟨by decide, br_f (by decide) (yes (by decide))⟩)
  exact ⟨21, l 20 0 rfl⟩
theorem xv_prod {post : Int32 → Prop} {lev : Int32} {held : Nat → Int64} {place cells : Nat → Int32} (hd : ∀ i, i < 20 → (cells (20 * i + i)).toInt.natAbs ≤ 2) (hp : post (nI (2 ^ cn_c (xk_n cells 2) 20))) : wpX_diagonalProduct post (lev, held, place, cells) := by
  have l : ∀ d t, t + d = 20 → wX_diagonalProduct_4 post lev held place cells (d + 1) (nI (2 ^ cn_c (xk_n cells 2) t)) (nI t) := by
    intro d
    induction d with
    | zero =>
      intro t ht
      have e : t = 20 := by omega
      subst e
      exact br_t xm_ge hp
    | succ d ih =>
      intro t ht
      have ht20 : t < 20 := by omega
      have hn := ih (t + 1) (by omega)
      rw [cn_s] at hn
      refine br_f (xm_lt ht20) ?_
      rw [xt_ix, xt_cl ht20 ht20]
      refine ⟨xt_vi ht20 ht20, fun x ex => ?_⟩
      have hv := xv_cases (hd t ht20)
      rw [← ex] at hv
      have ev : xk_n cells 2 t = decide (x.toInt.natAbs = 2) := by rw [ex]; rfl
      rw [ev] at hn
      have m1 : ∀ a : Int32, a * 1 = a := fun a => by grind
      have m2 : ∀ n : Nat, nI (2 ^ n) * 2 = nI (2 ^ (n + 1)) := fun n => by rw [Nat.pow_succ]; exact (Int32.ofNat_mul (2 ^ n) 2).symm
      rcases hv with q | q | q | q | q <;> subst q
      · refine br_t rfl (fun y ey => ?_)
        rw [ey, nI_1]
        exact hn
      · refine br_f (by decide) (br_t (by decide) (fun z ez y ey => ?_))
        rw [ey, ez, nI_1, m1]
        exact hn
      · refine br_f (by decide) (br_f (by decide) (fun z ez y ey => ?_))
        rw [ey, ez, nI_1, show -(-1 : Int32) = 1 from by decide, m1]
        exact hn
      · refine br_f (by decide) (br_t (by decide) (fun z ez y ey => ?_))
        rw [ey, ez, nI_1, m2]
        exact hn
      · refine br_f (by decide) (br_f (by decide) (fun z ez y ey => ?_))
        rw [ey, ez, nI_1, show -(-2 : Int32) = 2 from by decide, m2]
        exact hn
  exact ⟨21, l 20 0 rfl⟩
theorem xv_or {f g h : Nat → Bool} (hh : ∀ i, h i = (f i || g i)) (hd : ∀ i, f i = true → g i = true → False) : ∀ n, cn_c h n = cn_c f n + cn_c g n := by
  intro n
  induction n with
  | zero => rfl
  | succ n ih =>
    rw [cn_s, cn_s, cn_s, ih, hh]
    cases hf : f n <;> cases hg : g n
    · rfl
    · simp; omega
    · simp; omega
    · exact absurd (hd n hf hg) id
theorem xv_cnt (pp : Nat) (c : Nat → Int32) : cn_c (xv_f pp c) 20 = cn_c (xk_n c 1) 20 + (if pp = 2 then 0 else cn_c (xk_n c 2) 20) := by
  have e0 : ∀ n, cn_c (fun _ => false) n = 0 := by
    intro n
    induction n with
    | zero => rfl
    | succ n ih => rw [cn_s, ih]; rfl
  rw [xv_or (h := xv_f pp c) (f := xk_n c 1) (g := fun i => xk_n c 2 i && decide (pp ≠ 2)) (fun i => rfl) (fun i a b => by
    unfold xk_n at a b
    rw [Bool.and_eq_true, decide_eq_true_iff] at b
    rw [decide_eq_true_iff] at a
    omega)]
  congr 1
  by_cases h : pp = 2
  · rw [if_pos h, cn_congr (g := fun _ => false) (fun i _ => by simp [h]), e0]
  · rw [if_neg h, cn_congr (g := xk_n c 2) (fun i _ => by simp [h])]
theorem xv_en (s t : Nat) : -1 ≤ ed_en s t ∧ ed_en s t ≤ 1 := by
  unfold ed_en
  split
  · rcases dt_sg_or (ed_pc (t % (t ^^^ s))) with e | e <;> rw [e] <;> omega
  · omega
theorem xv_S (S : Nat → Bool) (k s t : Nat) : -1 ≤ ed_S S k s t ∧ ed_S S k s t ≤ 1 := by
  unfold ed_S ed_D
  have := xv_en s t
  split
  · split <;> omega
  · omega
theorem xv_edges {post : Int32 → SX → Prop} {lev : Int32} {held : Nat → Int64} {place cells : Nat → Int32} {S : Nat → Bool} {k pp : Nat} (hlev : lev = 0 ∨ lev = 1) (hpp : pp = 0 ∨ pp = 2 ∨ pp = 3 ∨ pp = 5) (h : tb_hX S k cells) (hp : ∀ r c', r ≤ 20 → rk_R (pp : Int) (ed_S S k) r → post (nI r) (lev, held, place, c')) : wpX_rankOfEdges post (lev, held, place, cells) (nI pp) := by
  have hM := tb_X_M h
  have hb : ∀ i j, i < 20 → j < 20 → -1 ≤ (cells (20 * i + j)).toInt ∧ (cells (20 * i + j)).toInt ≤ 1 := fun i j hi hj => by
    rw [h i j hi hj]; exact xv_S _ _ _ _
  have md : ∀ (p : Int32) (q : Int), p.toInt = q → rk_P q → 2 ≤ q → q ≤ 2000 → (∀ r, rk_R q (tb_X cells) r → rk_R (pp : Int) (tb_X cells) r) → wX_rankOfEdges_29 post p lev held place cells := by
    intro p q e1 e2 e3 e4 e5
    refine xm_rank e1 e2 e3 e4 (fun i j hi hj => ?_) (fun r c' h20 hr => hp r c' h20 (tb_X_R h (e5 r hr)))
    have := hb i j hi hj
    omega
  rcases hlev with e | e
  · subst e
    refine br_t rfl (xk_make hM (fun c' r0 r2 hd => ?_))
    refine xv_rank hpp hd (hp _ c' (cn_le _ 20) (tb_X_R h ?_))
    rw [xv_cnt]
    rcases hpp with e | e | e | e
    · subst e; exact r0
    · subst e; exact r2
    · subst e; exact wi_0q (by decide) hM r0
    · subst e; exact wi_0q (by decide) hM r0
  · subst e
    refine br_f (by decide) ?_
    rcases hpp with e | e | e | e
    · subst e
      exact br_t rfl (md 1031 1031 (by decide) li_p1031 (by decide) (by decide) (fun r hr => wi_q0 (by decide) hM hr))
    · subst e
      exact br_f (by decide) (md (nI 2) 2 (by decide) li_p2 (by decide) (by decide) (fun r hr => hr))
    · subst e
      exact br_f (by decide) (md (nI 3) 3 (by decide) li_p3 (by decide) (by decide) (fun r hr => hr))
    · subst e
      exact br_f (by decide) (md (nI 5) 5 (by decide) li_p5 (by decide) (by decide) (fun r hr => hr))
theorem xv_dim {post : Int32 → SX → Prop} {lev : Int32} {held : Nat → Int64} {place cells : Nat → Int32} {x : Int64} {k pp : Nat} (hlev : lev = 0 ∨ lev = 1) (hpl : ∀ s, 1 ≤ s → s < 64 → place s = nI (st_pl s)) (hk : k < 6) (hpp : pp = 0 ∨ pp = 2 ∨ pp = 3 ∨ pp = 5) (hp : ∀ r1 r2 c', r1 ≤ 20 → r2 ≤ 20 → rk_R (pp : Int) (ed_S (mk_b x) k) r1 → rk_R (pp : Int) (ed_S (mk_b x) (k + 1)) r2 → post ((nI (cn_c (xs_dg x (k + 1)) 64) - nI r1) - nI r2) (lev, held, place, c')) : wpX_dimension post (lev, held, place, cells) x (nI k) (nI pp) := by
  unfold wpX_dimension
  dsimp only
  rw [nI_1]
  refine xs_ofDegree (by omega) (fun w hw => ?_)
  refine xt_write hpl (by omega) (fun c1 h1 => ?_)
  refine xv_edges hlev hpp h1 (fun r1 c2 b1 R1 => ?_)
  refine xt_write hpl (by omega) (fun c3 h3 => ?_)
  refine xv_edges hlev hpp h3 (fun r2 c4 b2 R2 => ?_)
  refine xs_size ?_
  rw [cn_congr hw]
  exact hp r1 r2 c4 b1 b2 R1 R2
