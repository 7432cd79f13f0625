/-! small things of both sides -/
theorem nb_0 : narrow .boolean (.int 0) = .int 0 := lw_bz_n 0
theorem nb_1 : narrow .boolean (.int 1) = .int 1 := lw_bz_n 1
theorem nb_v0 : vp_nar .boolean 0 = 0 := by unfold vp_nar; rw [nb_0]
theorem nb_v1 : vp_nar .boolean 1 = 1 := by unfold vp_nar; rw [nb_1]
theorem nb_add0 (x : Int32) : x + 0 = x := by
  apply Int32.toBitVec_inj.1
  rw [Int32.toBitVec_add]
  exact BitVec.add_zero _
theorem rg_cases (p : Int32) : (p < 0 ∨ 4 ≤ p) ∨ ∃ j, j < 4 ∧ p = nI j := by
  by_cases h0 : p < 0
  · exact Or.inl (Or.inl h0)
  · obtain ⟨j, hj, rfl⟩ := nI_of h0
    by_cases h4 : j < 4
    · exact Or.inr ⟨j, h4, rfl⟩
    · exact Or.inl (Or.inr (nI_le (a := 4) (by omega) hj))
theorem rg_set (p : Int32) : (p < 1 ∨ 63 < p) ∨ ∃ j, 1 ≤ j ∧ j < 64 ∧ p = nI j := by
  by_cases h0 : p < 1
  · exact Or.inl (Or.inl h0)
  · have h : ¬ p < 0 := by
      intro z
      apply h0
      rw [Int32.lt_iff_toInt_lt] at z ⊢
      have e0 : (0 : Int32).toInt = 0 := by decide
      have e1 : (1 : Int32).toInt = 1 := by decide
      omega
    obtain ⟨j, hj, rfl⟩ := nI_of h
    by_cases h4 : j < 64
    · refine Or.inr ⟨j, ?_, h4, rfl⟩
      apply Classical.byContradiction
      intro z
      exact h0 (nI_lt (b := 1) (by omega) (by decide))
    · exact Or.inl (Or.inr (nI_lt (a := 63) (by omega) hj))
theorem rg_deg (p : Int32) : (p < 0 ∨ 5 < p) ∨ ∃ j, j < 6 ∧ p = nI j := by
  by_cases h0 : p < 0
  · exact Or.inl (Or.inl h0)
  · obtain ⟨j, hj, rfl⟩ := nI_of h0
    by_cases h4 : j < 6
    · exact Or.inr ⟨j, h4, rfl⟩
    · exact Or.inl (Or.inr (nI_lt (a := 5) (by omega) hj))
theorem xs_reg_bad {post : Int32 → Prop} {p : Int32} (h : p < 0 ∨ 4 ≤ p) (hp : post 0) : wpX_isRegister post p := by
  by_cases h0 : p < 0
  · exact br_t h0 hp
  · exact br_f h0 (br_t (h.resolve_left h0) hp)
theorem xs_reg {post : Int32 → Prop} {j : Nat} (h : j < 4) (hp : post 1) : wpX_isRegister post (nI j) := br_f (nI_pos (by omega)) (br_f (nI_ge (b := 4) h (by decide)) hp)
theorem xs_gt {i : Nat} (h : i < 64) : ¬ (63 : Int32) < nI i := fun z => absurd ((nI_ltI (a := 63) (by decide) (by omega)).mp z) (by omega)
theorem xs_gt64 : (63 : Int32) < nI 64 := nI_lt (a := 63) (b := 64) (by omega) (by decide)
theorem xs_set_bad {post : Int32 → Prop} {p : Int32} (h : p < 1 ∨ 63 < p) (hp : post 0) : wpX_isSet post p := by
  by_cases h0 : p < 1
  · exact br_t h0 hp
  · exact br_f h0 (br_t (h.resolve_left h0) hp)
theorem xs_set {post : Int32 → Prop} {j : Nat} (h1 : 1 ≤ j) (h : j < 64) (hp : post 1) : wpX_isSet post (nI j) := br_f (nI_nlt (b := 1) h1 (by omega)) (br_f (xs_gt h) hp)
theorem xs_deg_bad {post : Int32 → Prop} {p : Int32} (h : p < 0 ∨ 5 < p) (hp : post 0) : wpX_isDegree post p := by
  by_cases h0 : p < 0
  · exact br_t h0 hp
  · exact br_f h0 (br_t (h.resolve_left h0) hp)
theorem xs_deg {post : Int32 → Prop} {j : Nat} (h : j < 6) (hp : post 1) : wpX_isDegree post (nI j) := br_f (nI_pos (by omega)) (br_f (fun z => absurd ((nI_ltI (a := 5) (by decide) (by omega)).mp z) (by omega)) hp)
/-! size, isIn, isPart -/
theorem xs_bi (c : Bool) : (if c = true then (1 : Int64) else 0).toInt32 = nI (if c = true then 1 else 0) := by cases c <;> rfl
theorem xs_size_l {post : Int32 → Prop} {b : Int64} (hp : post (nI (cn_c (mk_b b) 64))) : ∀ d i, i + d = 64 → wX_size_4 post b (d + 1) (nI (cn_c (mk_b b) i)) (nI i) := by
  intro d
  induction d with
  | zero =>
    intro i hi
    have e : i = 64 := by omega
    subst e
    exact br_t (nI_le (a := 64) (b := 64) (by omega) (by decide)) hp
  | succ d ih =>
    intro i hi
    refine br_f (nI_ge (b := 64) (by omega) (by decide)) (fun x2 e2 x3 e3 => ?_)
    rw [e2, e3, mk_bit b (by omega), xs_bi, nI_add, nI_1]
    exact ih (i + 1) (by omega)
theorem xs_size {post : Int32 → Prop} {b : Int64} (hp : post (nI (cn_c (mk_b b) 64))) : wpX_size post b := ⟨65, xs_size_l hp 64 0 rfl⟩
theorem xs_pc {post : Int32 → Prop} {s : Nat} (hs : s < 64) (hp : post (nI (ed_pc s))) : wpX_size post (nI s).toInt64 := xs_size (by rw [st_pc s hs]; exact hp)
theorem xs_isIn {post : Int32 → Prop} {x : Int64} {s : Nat} (hs : s < 64) (ht : mk_b x s = true → post 1) (hf : mk_b x s = false → post 0) : wpX_isIn post x (nI s) := by
  unfold wpX_isIn
  rw [mk_bit x hs]
  cases hb : mk_b x s
  · exact br_f (by decide) (hf hb)
  · exact br_t rfl (ht hb)
theorem xs_isPart {post : Int32 → Prop} {a b : Nat} (ha : a < 64) (ht : a &&& b = a → post 1) (hf : ¬ a &&& b = a → post 0) : wpX_isPart post (nI a) (nI b) := by
  unfold wpX_isPart
  rw [st_and]
  have hl := st_and_le a b
  by_cases h : a &&& b = a
  · exact br_t (by rw [h]) (ht h)
  · exact br_f (fun z => h ((nI_eq (by omega) (by omega)).mp z)) (hf h)
/-! masks built bit by bit -/
def mb_I (f : Nat → Bool) (acc : Int64) (s : Nat) : Prop := ∀ t, t < 64 → mk_b acc t = (decide (t < s) && f t)
theorem mb_add {f : Nat → Bool} {acc : Int64} {s : Nat} (hs : s < 64) (h : mb_I f acc s) (hf : f s = true) : mb_I f (acc ||| ((1 : Int64) <<< ((nI s).toInt64 &&& 63))) (s + 1) := by
  intro t ht
  rw [mk_or, mk_sh1 s hs t ht, h t ht]
  by_cases e : t = s
  · subst e
    rw [hf, decide_eq_true (show t < t + 1 by omega), decide_eq_true (show t = t from rfl), Bool.or_true]; rfl
  · rw [decide_eq_false e, Bool.or_false]
    by_cases e2 : t < s
    · rw [decide_eq_true e2, decide_eq_true (show t < s + 1 by omega)]
    · rw [decide_eq_false e2, decide_eq_false (show ¬ t < s + 1 by omega)]
theorem mb_skip {f : Nat → Bool} {acc : Int64} {s : Nat} (h : mb_I f acc s) (hf : f s = false) : mb_I f acc (s + 1) := by
  intro t ht
  rw [h t ht]
  by_cases e : t = s
  · subst e
    rw [hf, Bool.and_false, Bool.and_false]
  · by_cases e2 : t < s
    · rw [decide_eq_true e2, decide_eq_true (show t < s + 1 by omega)]
    · rw [decide_eq_false e2, decide_eq_false (show ¬ t < s + 1 by omega)]
theorem mb_0 {f : Nat → Bool} (h : f 0 = false) : mb_I f 0 1 := by
  intro t _
  rw [mk_0]
  by_cases e : t = 0
  · subst e; rw [h, Bool.and_false]
  · rw [decide_eq_false (show ¬ t < 1 by omega)]; rfl
theorem mb_end {f : Nat → Bool} {acc : Int64} (h : mb_I f acc 64) : ∀ t, t < 64 → mk_b acc t = f t := by
  intro t ht
  rw [h t ht, decide_eq_true ht]; rfl
/-! ofDegree -/
def xs_dg (x : Int64) (n t : Nat) : Bool := decide (1 ≤ t) && (mk_b x t && decide (ed_pc t = n))
theorem xs_ofDegree {post : Int64 → Prop} {x : Int64} {k : Nat} (hk : k < 64) (hp : ∀ r, (∀ t, t < 64 → mk_b r t = xs_dg x (k + 1) t) → post r) : wpX_ofDegree post x (nI k) := by
  have l : ∀ d s acc, s + d = 64 → 1 ≤ s → mb_I (xs_dg x (k + 1)) acc s → wX_ofDegree_5 post x (nI k) (d + 1) acc (nI s) := by
    intro d
    induction d with
    | zero =>
      intro s acc hs _ h
      have e : s = 64 := by omega
      subst e
      exact br_t xs_gt64 (hp acc (mb_end h))
    | succ d ih =>
      intro s acc hs h1 h
      have hs64 : s < 64 := by omega
      refine br_f (xs_gt hs64) (xs_isIn hs64 (fun hb => ?_) (fun hb => ?_))
      · refine br_f (by decide) (xs_pc hs64 ?_)
        have hpc := ed_pc_le s
        rw [nI_1]
        by_cases e : ed_pc s = k + 1
        · refine br_t (by rw [e]) (fun y ey z ez => ?_)
          rw [ey, ez, nI_1]
          exact ih (s + 1) _ (by omega) (by omega) (mb_add hs64 h (by unfold xs_dg; rw [hb, e]; simp [h1]))
        · refine br_f (fun z => e ((nI_eq (by omega) (by omega)).mp z)) (fun y ey => ?_)
          rw [ey, nI_1]
          exact ih (s + 1) _ (by omega) (by omega) (mb_skip h (by unfold xs_dg; simp [e]))
      · refine br_t rfl (fun y ey => ?_)
        rw [ey, nI_1]
        exact ih (s + 1) _ (by omega) (by omega) (mb_skip h (by unfold xs_dg; simp [hb]))
  exact ⟨64, l 63 1 0 rfl (by omega) (mb_0 (by unfold xs_dg; simp))⟩
