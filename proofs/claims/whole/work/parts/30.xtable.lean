/-! X writes the edges of its sets -/
def xt_sg (n : Nat) : Int32 := if n % 2 = 0 then 1 else -1
theorem xt_sgT : ∀ n, n < 7 → (xt_sg n).toInt = dt_sg n := by decide +kernel
theorem xt_sgS : ∀ n, n < 7 → - xt_sg n = xt_sg (n + 1) := by decide +kernel
/-- s is t without one of its vertices below v -/
def xt_g (t v s : Nat) : Prop := ∃ u, u < v ∧ t.testBit u = true ∧ s = t ^^^ 2 ^ u
theorem xt_g0 {t s : Nat} : ¬ xt_g t 0 s := fun ⟨u, h, _⟩ => by omega
theorem xt_gs {t v s : Nat} : xt_g t (v + 1) s ↔ xt_g t v s ∨ (t.testBit v = true ∧ s = t ^^^ 2 ^ v) := by
  constructor
  · rintro ⟨u, h1, h2, h3⟩
    by_cases e : u = v
    · subst e; exact Or.inr ⟨h2, h3⟩
    · exact Or.inl ⟨u, by omega, h2, h3⟩
  · rintro (⟨u, h1, h2, h3⟩ | ⟨h2, h3⟩)
    · exact ⟨u, by omega, h2, h3⟩
    · exact ⟨v, by omega, h2, h3⟩
theorem xt_g6a : ∀ t, t < 64 → ∀ u, u < 6 → t.testBit u = true → (t ^^^ 2 ^ u) &&& t = t ^^^ 2 ^ u ∧ ed_pc t = ed_pc (t ^^^ 2 ^ u) + 1 ∧ t ^^^ 2 ^ u < 64 ∧ ed_en (t ^^^ 2 ^ u) t = dt_sg (ed_pc (t % 2 ^ u)) := by decide +kernel
theorem xt_g6b : ∀ t, t < 64 → ∀ s, s < 64 → s &&& t = s → ed_pc t = ed_pc s + 1 → (List.range 6).any (fun u => t.testBit u && decide (s = t ^^^ 2 ^ u)) = true := by decide +kernel
theorem xt_g6 {t s : Nat} (ht : t < 64) (hs : s < 64) : xt_g t 6 s ↔ s &&& t = s ∧ ed_pc t = ed_pc s + 1 := by
  constructor
  · rintro ⟨u, h1, h2, h3⟩
    have := xt_g6a t ht u h1 h2
    rw [h3]
    exact ⟨this.1, this.2.1⟩
  · rintro ⟨h1, h2⟩
    have := xt_g6b t ht s hs h1 h2
    rw [List.any_eq_true] at this
    obtain ⟨u, hu, hh⟩ := this
    rw [Bool.and_eq_true, decide_eq_true_iff] at hh
    exact ⟨u, List.mem_range.mp hu, hh.1, hh.2⟩
theorem xt_bit : ∀ v, v < 6 → ∀ t, t < 64 → (2 ^ v &&& t = 2 ^ v ↔ t.testBit v = true) := by decide +kernel
theorem xt_pcb : ∀ v, v < 6 → ∀ t, t < 64 → ed_pc (t % 2 ^ (v + 1)) = ed_pc (t % 2 ^ v) + (if t.testBit v = true then 1 else 0) := by decide +kernel
theorem xt_ix (a b : Nat) : nI a * 20 + nI b = nI (20 * a + b) := by
  show nI a * nI 20 + nI b = _
  rw [show nI a * nI 20 = nI (a * 20) from (Int32.ofNat_mul a 20).symm, nI_add, Nat.mul_comm]
theorem xt_vi {a b : Nat} (ha : a < 20) (hb : b < 20) : vp_in (nI (20 * a + b)) 400 := vp_in_nI (by omega) (by decide)
theorem xt_cl {a b : Nat} (ha : a < 20) (hb : b < 20) : (nI (20 * a + b)).toNatClampNeg = 20 * a + b := nI_clamp (by omega)
def xt_G (S : Nat → Bool) (t v s : Nat) (e : Int) : Prop := (S s = true ∧ xt_g t v s ∧ e = ed_en s t) ∨ (¬ (S s = true ∧ xt_g t v s) ∧ e = 0)
theorem xt_edge {post : SX → Prop} {lev : Int32} {held : Nat → Int64} {place cells : Nat → Int32} {x : Int64} {k t : Nat} (hpl : ∀ s, 1 ≤ s → s < 64 → place s = nI (st_pl s)) (hk : 1 ≤ k) (ht : t < 64) (htk : ed_pc t = k + 1) (h0 : ∀ i, i < 20 → (cells (20 * i + st_pl t)).toInt = 0) (hp : ∀ cells', (∀ i j, i < 20 → j < 20 → j ≠ st_pl t → cells' (20 * i + j) = cells (20 * i + j)) → (∀ i, i < 20 → xt_G (mk_b x) t 6 (st_us k i) (cells' (20 * i + st_pl t)).toInt) → post (lev, held, place, cells')) : wpX_writeEdge post (lev, held, place, cells) x (nI t) := by
  have t1 : 1 ≤ t := by
    apply Classical.byContradiction
    intro z
    have e : t = 0 := by omega
    rw [e] at htk
    have : ed_pc 0 = 0 := rfl
    omega
  have ht20 := st_pl_lt t ht
  have l : ∀ d v c, v + d = 6 → (∀ i j, i < 20 → j < 20 → j ≠ st_pl t → c (20 * i + j) = cells (20 * i + j)) → (∀ i, i < 20 → xt_G (mk_b x) t v (st_us k i) (c (20 * i + st_pl t)).toInt) → wX_writeEdge_6 post x (nI t) lev (d + 1) (xt_sg (ed_pc (t % 2 ^ v))) (nI v) held place c := by
    intro d
    induction d with
    | zero =>
      intro v c hv h1 h2
      have e : v = 6 := by omega
      subst e
      exact br_t ys_ge6 (hp c h1 h2)
    | succ d ih =>
      intro v c hv h1 h2
      have hv6 : v < 6 := by omega
      obtain ⟨e1, e2, e3⟩ := pi_v v hv6
      have hpcb := xt_pcb v hv6 t ht
      have hple := ed_pc_le (t % 2 ^ v)
      refine br_f (ys_lt6 hv6) (fun y ey => ?_)
      rw [ey, e1]
      refine xs_isPart e2 (fun hq => ?_) (fun hq => ?_)
      · have hb := (xt_bit v hv6 t ht).mp hq
        obtain ⟨g1, g2, g3, g4⟩ := xt_g6a t ht v hv6 hb
        have p1 : 1 ≤ t ^^^ 2 ^ v := by
          apply Classical.byContradiction
          intro z
          have e : t ^^^ 2 ^ v = 0 := by omega
          rw [e, htk] at g2
          have : ed_pc 0 = 0 := rfl
          omega
        have us := st_us_pl p1 g3
        rw [show ed_pc (t ^^^ 2 ^ v) = k by omega] at us
        have pl20 := st_pl_lt (t ^^^ 2 ^ v) g3
        rw [hb] at hpcb
        have hsg : - xt_sg (ed_pc (t % 2 ^ v)) = xt_sg (ed_pc (t % 2 ^ (v + 1))) := by
          rw [hpcb, xt_sgS _ (by omega)]; rfl
        refine br_f (by decide) (fun y2 ey2 => ?_)
        rw [ey2, st_xor]
        refine xs_isIn g3 (fun hin => ?_) (fun hin => ?_)
        · refine br_f (by decide) ?_
          rw [xs_cl (show t ^^^ 2 ^ v < 1000 by omega), xs_cl (show t < 1000 by omega), hpl _ p1 g3, hpl _ t1 ht, xt_ix, xt_cl pl20 ht20]
          refine ⟨vp_in_nI g3 (by decide), vp_in_nI ht (by decide), xt_vi pl20 ht20, fun y3 ey3 y4 ey4 y5 ey5 => ?_⟩
          rw [ey3, ey4, ey5, nI_1, hsg]
          refine ih (v + 1) _ (by omega) (fun i j hi hj hne => ?_) (fun i hi => ?_)
          · rw [xs_un (by omega)]; exact h1 i j hi hj hne
          · by_cases e : i = st_pl (t ^^^ 2 ^ v)
            · subst e
              rw [xs_us, us]
              refine Or.inl ⟨hin, xt_gs.mpr (Or.inr ⟨hb, rfl⟩), ?_⟩
              rw [xt_sgT _ (by omega), g4]
            · rw [xs_un (by omega)]
              have hne : st_us k i ≠ t ^^^ 2 ^ v := fun z => by
                have := st_us_ok (k := k) (i := i) (by rw [z]; exact g3)
                rw [z] at this
                exact e this.2.2.symm
              rcases h2 i hi with ⟨a, b, c⟩ | ⟨a, c⟩
              · exact Or.inl ⟨a, xt_gs.mpr (Or.inl b), c⟩
              · refine Or.inr ⟨fun z => ?_, c⟩
                rcases xt_gs.mp z.2 with q | q
                · exact a ⟨z.1, q⟩
                · exact hne q.2
        · refine br_t rfl (fun y3 ey3 y4 ey4 => ?_)
          rw [ey3, ey4, nI_1, hsg]
          refine ih (v + 1) _ (by omega) h1 (fun i hi => ?_)
          rcases h2 i hi with ⟨a, b, c⟩ | ⟨a, c⟩
          · exact Or.inl ⟨a, xt_gs.mpr (Or.inl b), c⟩
          · refine Or.inr ⟨fun z => ?_, c⟩
            rcases xt_gs.mp z.2 with q | q
            · exact a ⟨z.1, q⟩
            · have := z.1
              rw [q.2, hin] at this
              exact absurd this (by decide)
      · have hb : ¬ t.testBit v = true := fun z => hq ((xt_bit v hv6 t ht).mpr z)
        rw [if_neg hb] at hpcb
        refine br_t rfl (fun y3 ey3 => ?_)
        rw [ey3, nI_1, show ed_pc (t % 2 ^ v) = ed_pc (t % 2 ^ (v + 1)) from hpcb.symm]
        refine ih (v + 1) _ (by omega) h1 (fun i hi => ?_)
        rcases h2 i hi with ⟨a, b, c⟩ | ⟨a, c⟩
        · exact Or.inl ⟨a, xt_gs.mpr (Or.inl b), c⟩
        · refine Or.inr ⟨fun z => ?_, c⟩
          rcases xt_gs.mp z.2 with q | q
          · exact a ⟨z.1, q⟩
          · exact hb q.1
  have := l 6 0 cells rfl (fun _ _ _ _ _ => rfl) (fun i hi => Or.inr ⟨fun z => xt_g0 z.2, h0 i hi⟩)
  rw [show t % 2 ^ 0 = 0 from Nat.mod_one t] at this
  exact ⟨7, this⟩
theorem xt_SD {S : Nat → Bool} {k s t : Nat} (hk : 1 ≤ k) (hs : s < 64) (ht : t < 64) (htk : ed_pc t = k + 1) (hS : S t = true) {e : Int} (h : xt_G S t 6 s e) : e = ed_S S k s t := by
  unfold ed_S ed_D
  rcases h with ⟨a, b, c⟩ | ⟨a, c⟩
  · rw [if_pos ⟨a, hS⟩, if_pos ⟨hs, ht, hk, htk⟩]; exact c
  · rw [c]
    by_cases z : S s = true ∧ S t = true
    · rw [if_pos z, if_pos ⟨hs, ht, hk, htk⟩]
      unfold ed_en
      rw [if_neg (fun y => a ⟨z.1, (xt_g6 ht hs).mpr y⟩)]
    · rw [if_neg z]
theorem xt_write {post : SX → Prop} {lev : Int32} {held : Nat → Int64} {place cells : Nat → Int32} {x : Int64} {k : Nat} (hpl : ∀ s, 1 ≤ s → s < 64 → place s = nI (st_pl s)) (hk : k ≤ 6) (hp : ∀ cells', tb_hX (mk_b x) k cells' → post (lev, held, place, cells')) : wpX_writeEdges post (lev, held, place, cells) x (nI k) := by
  have l2 : ∀ w : Int64, (∀ t, t < 64 → mk_b w t = xs_dg x (k + 1) t) → 1 ≤ k → ∀ d m c, m + d = 64 → 1 ≤ m → (∀ i j, i < 20 → j < 20 → (c (20 * i + j)).toInt = if st_us (k + 1) j < m then ed_S (mk_b x) k (st_us k i) (st_us (k + 1) j) else 0) → wX_writeEdges_41 post x w (d + 1) (nI m) lev held place c := by
    intro w hw hk1 d
    induction d with
    | zero =>
      intro m c hm _ h
      have e : m = 64 := by omega
      subst e
      refine br_t xs_gt64 (hp c (fun i j hi hj => ?_))
      rw [h i j hi hj]
      by_cases z : st_us (k + 1) j < 64
      · rw [if_pos z]
      · rw [if_neg z, ed_S_out (Or.inr (by omega))]
    | succ d ih =>
      intro m c hm h1 h
      have hm64 : m < 64 := by omega
      refine br_f (xs_gt hm64) (xs_isIn hm64 (fun hb => ?_) (fun hb => ?_))
      · rw [hw m hm64] at hb
        unfold xs_dg at hb
        rw [Bool.and_eq_true, Bool.and_eq_true, decide_eq_true_iff, decide_eq_true_iff] at hb
        obtain ⟨_, hS, hpc⟩ := hb
        have us := st_us_pl h1 hm64
        rw [hpc] at us
        have hm20 := st_pl_lt m hm64
        refine br_f (by decide) (xt_edge hpl hk1 hm64 hpc (fun i hi => ?_) (fun c' c1 c2 => ?_))
        · rw [h i _ hi hm20, us, if_neg (by omega)]
        · intro y ey
          rw [ey, nI_1]
          refine ih (m + 1) c' (by omega) (by omega) (fun i j hi hj => ?_)
          by_cases e : j = st_pl m
          · subst e
            rw [us, if_pos (by omega)]
            by_cases hs : st_us k i < 64
            · exact xt_SD hk1 hs hm64 hpc hS (c2 i hi)
            · rw [ed_S_out (Or.inl (by omega))]
              rcases c2 i hi with ⟨a, b, q⟩ | ⟨a, q⟩
              · exfalso
                have : mk_b x (st_us k i) = false := mk_big (by omega)
                rw [this] at a
                exact absurd a (by decide)
              · exact q
          · rw [c1 i j hi hj e, h i j hi hj]
            have hne : st_us (k + 1) j ≠ m := fun z => by
              have := st_us_ok (k := k + 1) (i := j) (by rw [z]; exact hm64)
              rw [z] at this
              exact e this.2.2.symm
            by_cases z : st_us (k + 1) j < m
            · rw [if_pos z, if_pos (by omega)]
            · rw [if_neg z, if_neg (by omega)]
      · refine br_t rfl (fun y ey => ?_)
        rw [ey, nI_1]
        refine ih (m + 1) c (by omega) (by omega) (fun i j hi hj => ?_)
        rw [h i j hi hj]
        by_cases e : st_us (k + 1) j = m
        · rw [if_neg (by omega), if_pos (by omega), e]
          have ok := st_us_ok (k := k + 1) (i := j) (by rw [e]; exact hm64)
          rw [e] at ok
          have : mk_b x m = false := by
            cases q : mk_b x m
            · rfl
            · rw [hw m hm64] at hb
              unfold xs_dg at hb
              rw [q, ok.2.1] at hb
              simp [h1] at hb
          exact (tb_S0 (Or.inr (Or.inr (Or.inr (Or.inr (Or.inr (Or.inr (Or.inr this)))))))).symm
        · by_cases z : st_us (k + 1) j < m
          · rw [if_pos z, if_pos (by omega)]
          · rw [if_neg z, if_neg (by omega)]
  have l1 : ∀ d i c, i + d = 400 → (∀ j, j < i → c j = 0) → wX_writeEdges_3 post x (nI k) lev (d + 1) (nI i) held place c := by
    intro d
    induction d with
    | zero =>
      intro i c hi h
      have e : i = 400 := by omega
      subst e
      refine br_t (nI_le (a := 400) (b := 400) (by omega) (by decide)) ?_
      have z : ∀ i j, i < 20 → j < 20 → (c (20 * i + j)).toInt = 0 := fun i j hi hj => by rw [h _ (by omega)]; rfl
      by_cases hk1 : 1 ≤ k
      · refine br_t (nI_le (a := 1) hk1 (by omega)) (xs_ofDegree (by omega) (fun w hw => ?_))
        refine ⟨64, l2 w hw hk1 63 1 c rfl (by omega) (fun i j hi hj => ?_)⟩
        rw [z i j hi hj]
        by_cases q : st_us (k + 1) j < 1
        · have := st_us_ok (k := k + 1) (i := j) (by omega)
          omega
        · rw [if_neg q]
      · refine br_f (nI_ge (b := 1) (by omega) (by decide)) (hp c (fun i j hi hj => ?_))
        rw [z i j hi hj]
        unfold ed_S ed_D
        rw [if_neg (show ¬ (st_us k i < 64 ∧ st_us (k + 1) j < 64 ∧ 1 ≤ k ∧ ed_pc (st_us (k + 1) j) = k + 1) by omega)]
        split <;> rfl
    | succ d ih =>
      intro i c hi h
      refine br_f (nI_ge (b := 400) (by omega) (by decide)) ⟨vp_in_nI (by omega) (by decide), fun y ey z ez => ?_⟩
      rw [ey, ez, nI_1, xs_cl (by omega)]
      refine ih (i + 1) _ (by omega) (fun j hj => ?_)
      by_cases e : j = i
      · subst e; rw [xs_us]
      · rw [xs_un e]; exact h j (by omega)
  exact ⟨401, l1 400 0 cells rfl (fun j hj => by omega)⟩
