/-! the tables of both sides against the edge matrix of a family S of sets -/
def tb_X (c : Nat → Int32) : Nat → Nat → Int := fun i j => if i < 20 ∧ j < 20 then (c (20 * i + j)).toInt else 0
def tb_Y (R C : Nat) (c : Nat → Int64) : Nat → Nat → Int := fun i j => if i < R ∧ j < C then (c (20 * i + j)).toInt else 0
theorem tb_en0 {s t : Nat} (h : ed_pc t ≠ ed_pc s + 1) : ed_en s t = 0 := by
  unfold ed_en
  rw [if_neg (fun z => h z.2)]
theorem tb_S0 {S : Nat → Bool} {k s t : Nat} (h : ed_pc s ≠ k ∨ ed_pc t ≠ k + 1 ∨ s = 0 ∨ t = 0 ∨ 64 ≤ s ∨ 64 ≤ t ∨ S s = false ∨ S t = false) : ed_S S k s t = 0 := by
  unfold ed_S
  by_cases hS : S s = true ∧ S t = true
  · rw [if_pos hS]
    unfold ed_D
    by_cases hc : s < 64 ∧ t < 64 ∧ 1 ≤ k ∧ ed_pc t = k + 1
    · rw [if_pos hc]
      refine tb_en0 (fun z => ?_)
      have p0 : ed_pc 0 = 0 := rfl
      rcases h with h | h | h | h | h | h | h | h
      · omega
      · omega
      · rw [h, p0] at z; omega
      · rw [h, p0] at z; omega
      · omega
      · omega
      · rw [hS.1] at h; exact absurd h (by decide)
      · rw [hS.2] at h; exact absurd h (by decide)
    · rw [if_neg hc]
  · rw [if_neg hS]
/-- X's table: rows and columns at the places of all sets -/
def tb_hX (S : Nat → Bool) (k : Nat) (c : Nat → Int32) : Prop := ∀ i j, i < 20 → j < 20 → (c (20 * i + j)).toInt = ed_S S k (st_us k i) (st_us (k + 1) j)
theorem tb_us_lt {k i : Nat} : st_us k i ≤ 64 := by
  by_cases hc : i < cn_c (fun x => decide (1 ≤ x) && decide (ed_pc x = k)) 64
  · have := (cn_sel_ok (d := 64) hc).2.2
    exact Nat.le_of_lt this
  · have : st_us k i = 64 := cn_sel_no (by omega)
    omega
theorem tb_X1 {S : Nat → Bool} {k : Nat} {c : Nat → Int32} (h : tb_hX S k c) (i j : Nat) : tb_X c i j = ed_S S k (if i < 20 then st_us k i else 64) (if j < 20 then st_us (k + 1) j else 64) := by
  unfold tb_X
  by_cases hi : i < 20
  · by_cases hj : j < 20
    · rw [if_pos ⟨hi, hj⟩, if_pos hi, if_pos hj]; exact h i j hi hj
    · rw [if_neg (fun z => hj z.2), if_neg hj, ed_S_out (Or.inr (Nat.le_refl 64))]
  · rw [if_neg (fun z => hi z.1), if_neg hi, ed_S_out (Or.inl (Nat.le_refl 64))]
theorem tb_X2 {S : Nat → Bool} {k : Nat} {c : Nat → Int32} (h : tb_hX S k c) (s t : Nat) : ed_S S k s t = tb_X c (if 1 ≤ s ∧ s < 64 ∧ ed_pc s = k then st_pl s else 20) (if 1 ≤ t ∧ t < 64 ∧ ed_pc t = k + 1 then st_pl t else 20) := by
  by_cases hs : 1 ≤ s ∧ s < 64 ∧ ed_pc s = k
  · by_cases ht : 1 ≤ t ∧ t < 64 ∧ ed_pc t = k + 1
    · rw [if_pos hs, if_pos ht]
      have e1 := st_us_pl hs.1 hs.2.1
      have e2 := st_us_pl ht.1 ht.2.1
      rw [hs.2.2] at e1
      rw [ht.2.2] at e2
      rw [tb_X1 h, if_pos (st_pl_lt s hs.2.1), if_pos (st_pl_lt t ht.2.1), e1, e2]
    · rw [if_neg ht, tb_S0 (by omega)]
      unfold tb_X
      rw [if_neg (by omega)]
  · rw [if_neg hs, tb_S0 (by omega)]
    unfold tb_X
    rw [if_neg (by omega)]
theorem tb_X_R {q : Int} {S : Nat → Bool} {k r : Nat} {c : Nat → Int32} (h : tb_hX S k c) (hr : rk_R q (tb_X c) r) : rk_R q (ed_S S k) r :=
  rk_R_re (fun i => if i < 20 then st_us k i else 64) (fun j => if j < 20 then st_us (k + 1) j else 64) (fun s => if 1 ≤ s ∧ s < 64 ∧ ed_pc s = k then st_pl s else 20) (fun t => if 1 ≤ t ∧ t < 64 ∧ ed_pc t = k + 1 then st_pl t else 20) (tb_X1 h) (tb_X2 h) hr
theorem tb_X_M {S : Nat → Bool} {k : Nat} {c : Nat → Int32} (h : tb_hX S k c) : rk_M 2 (tb_X c) := wi_M_re _ _ (tb_X1 h) (ed_SM S k)
/-- Y's table: rows and columns of the sets in S alone -/
def tb_r (S : Nat → Bool) (k s : Nat) : Bool := decide (1 ≤ s) && (S s && decide (ed_pc s = k))
def tb_hY (S : Nat → Bool) (k R C : Nat) (c : Nat → Int64) : Prop := R = cn_c (tb_r S k) 64 ∧ C = cn_c (tb_r S (k + 1)) 64 ∧ ∀ i j, i < R → j < C → (c (20 * i + j)).toInt = ed_S S k (cn_sel (tb_r S k) i 64 64) (cn_sel (tb_r S (k + 1)) j 64 64)
theorem tb_Y1 {S : Nat → Bool} {k R C : Nat} {c : Nat → Int64} (h : tb_hY S k R C c) (i j : Nat) : tb_Y R C c i j = ed_S S k (cn_sel (tb_r S k) i 64 64) (cn_sel (tb_r S (k + 1)) j 64 64) := by
  unfold tb_Y
  by_cases hi : i < R
  · by_cases hj : j < C
    · rw [if_pos ⟨hi, hj⟩]; exact h.2.2 i j hi hj
    · rw [if_neg (fun z => hj z.2), cn_sel_no (f := tb_r S (k + 1)) (i := j) (by have := h.2.1; omega), ed_S_out (Or.inr (Nat.le_refl 64))]
  · rw [if_neg (fun z => hi z.1), cn_sel_no (f := tb_r S k) (i := i) (by have := h.1; omega), ed_S_out (Or.inl (Nat.le_refl 64))]
theorem tb_r_ok {S : Nat → Bool} {k s : Nat} : tb_r S k s = true ↔ 1 ≤ s ∧ S s = true ∧ ed_pc s = k := by
  unfold tb_r
  rw [Bool.and_eq_true, Bool.and_eq_true, decide_eq_true_iff, decide_eq_true_iff]
theorem tb_Y2 {S : Nat → Bool} {k R C : Nat} {c : Nat → Int64} (h : tb_hY S k R C c) (s t : Nat) : ed_S S k s t = tb_Y R C c (if s < 64 ∧ tb_r S k s = true then cn_c (tb_r S k) s else R) (if t < 64 ∧ tb_r S (k + 1) t = true then cn_c (tb_r S (k + 1)) t else C) := by
  have no : ∀ {k s : Nat}, s < 64 → ¬ (s < 64 ∧ tb_r S k s = true) → ed_pc s ≠ k ∨ s = 0 ∨ S s = false := by
    intro k s hs z
    by_cases h1 : ed_pc s = k
    · by_cases h2 : s = 0
      · exact Or.inr (Or.inl h2)
      · right; right
        cases hS : S s
        · rfl
        · exact absurd ⟨hs, tb_r_ok.mpr ⟨by omega, hS, h1⟩⟩ z
    · exact Or.inl h1
  by_cases hs : s < 64 ∧ tb_r S k s = true
  · by_cases ht : t < 64 ∧ tb_r S (k + 1) t = true
    · rw [if_pos hs, if_pos ht, tb_Y1 h, cn_sel_at hs.1 hs.2 rfl, cn_sel_at ht.1 ht.2 rfl]
    · rw [if_neg ht]
      unfold tb_Y
      rw [if_neg (by omega)]
      by_cases t64 : t < 64
      · rcases no t64 ht with z | z | z
        · exact tb_S0 (Or.inr (Or.inl z))
        · exact tb_S0 (Or.inr (Or.inr (Or.inr (Or.inl z))))
        · exact tb_S0 (Or.inr (Or.inr (Or.inr (Or.inr (Or.inr (Or.inr (Or.inr z)))))))
      · exact ed_S_out (Or.inr (by omega))
  · rw [if_neg hs]
    unfold tb_Y
    rw [if_neg (by omega)]
    by_cases s64 : s < 64
    · rcases no s64 hs with z | z | z
      · exact tb_S0 (Or.inl z)
      · exact tb_S0 (Or.inr (Or.inr (Or.inl z)))
      · exact tb_S0 (Or.inr (Or.inr (Or.inr (Or.inr (Or.inr (Or.inr (Or.inl z)))))))
    · exact ed_S_out (Or.inl (by omega))
theorem tb_Y_R {q : Int} {S : Nat → Bool} {k R C r : Nat} {c : Nat → Int64} (h : tb_hY S k R C c) (hr : rk_R q (tb_Y R C c) r) : rk_R q (ed_S S k) r :=
  rk_R_re (fun i => cn_sel (tb_r S k) i 64 64) (fun j => cn_sel (tb_r S (k + 1)) j 64 64) (fun s => if s < 64 ∧ tb_r S k s = true then cn_c (tb_r S k) s else R) (fun t => if t < 64 ∧ tb_r S (k + 1) t = true then cn_c (tb_r S (k + 1)) t else C) (tb_Y1 h) (tb_Y2 h) hr
theorem tb_Y_M {S : Nat → Bool} {k R C : Nat} {c : Nat → Int64} (h : tb_hY S k R C c) : rk_M 2 (tb_Y R C c) := wi_M_re _ _ (tb_Y1 h) (ed_SM S k)
theorem tb_20 : ∀ k, k < 7 → cn_c (fun s => decide (ed_pc s = k)) 64 ≤ 20 := by decide +kernel
theorem tb_R20 (S : Nat → Bool) (k : Nat) : cn_c (tb_r S k) 64 ≤ 20 := by
  by_cases h : k < 7
  · refine Nat.le_trans (cn_imp (fun i _ z => ?_)) (tb_20 k h)
    rw [decide_eq_true_iff]
    exact (tb_r_ok.mp z).2.2
  · have : cn_c (tb_r S k) 64 ≤ cn_c (fun _ => false) 64 := cn_imp (fun i _ z => by
      have h1 := (tb_r_ok.mp z).2.2
      have h2 := ed_pc_le i
      omega)
    have e : cn_c (fun _ => false) 64 = 0 := by decide
    omega
