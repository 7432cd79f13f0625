/-! a checker for bounds of all minors -/
theorem ce_le {b b' : Int} {W : Nat → Nat → Int} (h : b' ≤ b) (m : rk_M b' W) : rk_M b W := by
  intro n ρ γ
  have := m n ρ γ
  omega
def ce_v : Nat → Int
  | 0 => 0
  | 1 => 1
  | 2 => -1
  | 3 => 2
  | _ => -2
def ce_F (R C M : Nat) : Nat → Nat → Int := fun i j => if i < R ∧ j < C then ce_v ((M >>> (3 * (C * i + j))) % 8) else 0
theorem ce_F_out {R C M i j : Nat} (h : R ≤ i ∨ C ≤ j) : ce_F R C M i j = 0 := by
  unfold ce_F
  rw [if_neg (by omega)]
def ce_all : Nat → (Nat → Bool) → Bool
  | 0, _ => true
  | n + 1, f => f n && ce_all n f
theorem ce_all_ok {f : Nat → Bool} : ∀ {n : Nat}, ce_all n f = true → ∀ i, i < n → f i = true := by
  intro n
  induction n with
  | zero => intro _ i h; omega
  | succ n ih =>
    intro h i hi
    have h2 : (f n && ce_all n f) = true := h
    rw [Bool.and_eq_true] at h2
    by_cases e : i = n
    · rw [e]; exact h2.1
    · exact ih h2.2 i (by omega)
def ce_zr (W : Nat → Nat → Int) (p : Nat) : Nat → Nat → Int := fun i j => if i = p then 0 else W i j
def ce_zc (W : Nat → Nat → Int) (c : Nat) : Nat → Nat → Int := fun i j => if j = c then 0 else W i j
theorem ce_zc_M {b : Int} {W : Nat → Nat → Int} (c : Nat) (h : rk_M b W) : rk_M b (ce_zc W c) := by
  refine rk_M_cols (fun j => if j = c then 0 else 1) (fun j => j) (fun j => ?_) (fun i j => ?_) h
  · show (if j = c then (0 : Int) else 1) = 1 ∨ (if j = c then (0 : Int) else 1) = -1 ∨ (if j = c then (0 : Int) else 1) = 0
    split
    · exact Or.inr (Or.inr rfl)
    · exact Or.inl rfl
  · show (if j = c then 0 else W i j) = (if j = c then (0 : Int) else 1) * W i j
    split
    · exact (Int.zero_mul _).symm
    · exact (Int.one_mul _).symm
theorem ce_unit {b : Int} {W : Nat → Nat → Int} {p x : Nat} (hu : W p x = 1 ∨ W p x = -1) (hz : ∀ j, j ≠ x → W p j = 0) (h : rk_M b (ce_zr W p)) : rk_M b W := by
  have h2 : rk_M b (ce_zc (ce_zr W p) x) := ce_zc_M x h
  have e2 : (fun i j => if j = x then 0 else W i j) = ce_zc (ce_zr W p) x := by
    funext i j
    unfold ce_zc ce_zr
    by_cases hj : j = x
    · rw [if_pos hj, if_pos hj]
    · rw [if_neg hj, if_neg hj]
      by_cases hi : i = p
      · rw [if_pos hi, hi]; exact hz j hj
      · rw [if_neg hi]
  refine rk_M_back (b' := b) (p := p) (c := x) (V := ce_zc (ce_zr W p) x) ?_ ?_ h ?_ h2
  · rcases hu with u | u
    · exact Or.inl ⟨u, Int.le_refl b⟩
    · exact Or.inr (Or.inl ⟨u, Int.le_refl b⟩)
  · intro i j
    unfold ce_zc ce_zr
    by_cases hj : j = x
    · rw [if_pos hj, hj, Int.mul_comm (W i x), Int.sub_self, Int.mul_zero]
    · rw [if_neg hj]
      by_cases hi : i = p
      · rw [if_pos hi, hi, hz j hj, Int.mul_zero, Int.sub_self]
      · rw [if_neg hi, hz j hj, Int.mul_zero, Int.sub_zero]
  · rw [e2]; exact h2
theorem ce_dup {b : Int} {W : Nat → Nat → Int} {p x : Nat} {s : Int} (hs : s = 1 ∨ s = -1) (hpx : p ≠ x) (hz : ∀ j, W p j = s * W x j) (h : rk_M b (ce_zr W p)) : rk_M b W := by
  refine rk_M_rows (fun i => if i = p then s else 1) (fun i => if i = p then x else i) (fun i => ?_) (fun i j => ?_) h
  · show (if i = p then s else 1) = 1 ∨ (if i = p then s else 1) = -1 ∨ (if i = p then s else 1) = 0
    split
    · rcases hs with u | u
      · exact Or.inl u
      · exact Or.inr (Or.inl u)
    · exact Or.inl rfl
  · show W i j = (if i = p then s else 1) * ce_zr W p (if i = p then x else i) j
    unfold ce_zr
    by_cases hi : i = p
    · rw [if_pos hi, if_pos hi, if_neg (fun z => hpx z.symm), hi]; exact hz j
    · rw [if_neg hi, if_neg hi, if_neg hi, Int.one_mul]
def ce_e (x : Nat) : Int := if x < 2 then 0 else if x % 2 = 0 then 1 else -1
theorem ce_e_or (x : Nat) : ce_e x = 1 ∨ ce_e x = -1 ∨ ce_e x = 0 := by
  unfold ce_e
  split
  · exact Or.inr (Or.inr rfl)
  · split
    · exact Or.inl rfl
    · exact Or.inr (Or.inl rfl)
def ce_1 (x : Int) : Bool := decide (x = 1) || decide (x = -1)
theorem ce_1_ok {x : Int} (h : ce_1 x = true) : x = 1 ∨ x = -1 := by
  unfold ce_1 at h
  rw [Bool.or_eq_true, decide_eq_true_iff, decide_eq_true_iff] at h
  exact h
/-- lines are taken away (0: a row with one entry, 1: a column with one entry, 2, 3: a row that is another, 4, 5: a column that is another), then the rest is found in T -/
def ce_ck (R C : Nat) (rows cols : List Nat) (T : Nat → Nat → Int) : List (Nat × Nat × Nat) → (Nat → Nat → Int) → Bool
  | [], W => ce_all R (fun i => ce_all C (fun j => decide (W i j = ce_e (rows.getD i 0) * (ce_e (cols.getD j 0) * T (rows.getD i 0 / 2 - 1) (cols.getD j 0 / 2 - 1)))))
  | (k, l, x) :: r, W =>
    match k with
    | 0 => ce_1 (W l x) && (ce_all C (fun j => decide (j = x) || decide (W l j = 0)) && ce_ck R C rows cols T r (ce_zr W l))
    | 1 => ce_1 (W x l) && (ce_all R (fun i => decide (i = x) || decide (W i l = 0)) && ce_ck R C rows cols T r (ce_zc W l))
    | 2 => !decide (l = x) && (ce_all C (fun j => decide (W l j = W x j)) && ce_ck R C rows cols T r (ce_zr W l))
    | 3 => !decide (l = x) && (ce_all C (fun j => decide (W l j = - W x j)) && ce_ck R C rows cols T r (ce_zr W l))
    | 4 => !decide (l = x) && (ce_all R (fun i => decide (W i l = W i x)) && ce_ck R C rows cols T r (ce_zc W l))
    | _ => !decide (l = x) && (ce_all R (fun i => decide (W i l = - W i x)) && ce_ck R C rows cols T r (ce_zc W l))
theorem ce_zr_out {R C : Nat} {W : Nat → Nat → Int} (h : ∀ i j, R ≤ i ∨ C ≤ j → W i j = 0) (l : Nat) : ∀ i j, R ≤ i ∨ C ≤ j → ce_zr W l i j = 0 := by
  intro i j hij
  unfold ce_zr
  split
  · rfl
  · exact h i j hij
theorem ce_zc_out {R C : Nat} {W : Nat → Nat → Int} (h : ∀ i j, R ≤ i ∨ C ≤ j → W i j = 0) (l : Nat) : ∀ i j, R ≤ i ∨ C ≤ j → ce_zc W l i j = 0 := by
  intro i j hij
  unfold ce_zc
  split
  · rfl
  · exact h i j hij
theorem ce_ck_ok {b : Int} {R C : Nat} {rows cols : List Nat} {T : Nat → Nat → Int} (hT : rk_M b T) : ∀ (rem : List (Nat × Nat × Nat)) (W : Nat → Nat → Int), (∀ i j, R ≤ i ∨ C ≤ j → W i j = 0) → ce_ck R C rows cols T rem W = true → rk_M b W := by
  intro rem
  induction rem with
  | nil =>
    intro W ho h
    have hh : ∀ i, i < R → ∀ j, j < C → W i j = ce_e (rows.getD i 0) * (ce_e (cols.getD j 0) * T (rows.getD i 0 / 2 - 1) (cols.getD j 0 / 2 - 1)) := by
      intro i hi j hj
      have := ce_all_ok (ce_all_ok h i hi) j hj
      exact decide_eq_true_iff.mp this
    have z0 : ∀ (c : Prop) [Decidable c] (x : Int), (x = 1 ∨ x = -1 ∨ x = 0) → ((if c then x else 0) = 1 ∨ (if c then x else 0) = -1 ∨ (if c then x else 0) = 0) := by
      intro c _ x hx
      split
      · exact hx
      · exact Or.inr (Or.inr rfl)
    have h2 : rk_M b (fun i j => (if j < C then ce_e (cols.getD j 0) else 0) * T i (cols.getD j 0 / 2 - 1)) :=
      rk_M_cols (fun j => if j < C then ce_e (cols.getD j 0) else 0) (fun j => cols.getD j 0 / 2 - 1) (fun j => z0 _ _ (ce_e_or _)) (fun i j => rfl) hT
    refine rk_M_rows (fun i => if i < R then ce_e (rows.getD i 0) else 0) (fun i => rows.getD i 0 / 2 - 1) (fun j => z0 _ _ (ce_e_or _)) (fun i j => ?_) h2
    show W i j = (if i < R then ce_e (rows.getD i 0) else 0) * ((if j < C then ce_e (cols.getD j 0) else 0) * T (rows.getD i 0 / 2 - 1) (cols.getD j 0 / 2 - 1))
    by_cases hi : i < R
    · by_cases hj : j < C
      · rw [if_pos hi, if_pos hj]; exact hh i hi j hj
      · rw [if_neg hj, Int.zero_mul, Int.mul_zero]; exact ho i j (by omega)
    · rw [if_neg hi, Int.zero_mul]; exact ho i j (by omega)
  | cons a r ih =>
    obtain ⟨k, l, x⟩ := a
    intro W ho h
    have row : ce_ck R C rows cols T r (ce_zr W l) = true → rk_M b (ce_zr W l) := fun z => ih _ (ce_zr_out ho l) z
    have col : ce_ck R C rows cols T r (ce_zc W l) = true → rk_M b (ce_zr (fun i j => W j i) l) := fun z => rk_M_tr (ih _ (ce_zc_out ho l) z)
    have cW : rk_M b (fun i j => W j i) → rk_M b W := fun z => rk_M_tr z
    have s1 : ∀ y : Int, y = 1 * y := fun y => (Int.one_mul y).symm
    have s2 : ∀ y : Int, - y = -1 * y := fun y => by omega
    match k, h with
    | 0, h =>
      have h : (ce_1 (W l x) && (ce_all C (fun j => decide (j = x) || decide (W l j = 0)) && ce_ck R C rows cols T r (ce_zr W l))) = true := h
      rw [Bool.and_eq_true, Bool.and_eq_true] at h
      refine ce_unit (ce_1_ok h.1) (fun j hj => ?_) (row h.2.2)
      by_cases hc : j < C
      · have := ce_all_ok h.2.1 j hc
        rw [Bool.or_eq_true, decide_eq_true_iff, decide_eq_true_iff] at this
        exact this.resolve_left hj
      · exact ho l j (by omega)
    | 1, h =>
      have h : (ce_1 (W x l) && (ce_all R (fun i => decide (i = x) || decide (W i l = 0)) && ce_ck R C rows cols T r (ce_zc W l))) = true := h
      rw [Bool.and_eq_true, Bool.and_eq_true] at h
      refine cW (ce_unit (W := fun i j => W j i) (p := l) (x := x) (ce_1_ok h.1) (fun j hj => ?_) (col h.2.2))
      by_cases hc : j < R
      · have := ce_all_ok h.2.1 j hc
        rw [Bool.or_eq_true, decide_eq_true_iff, decide_eq_true_iff] at this
        exact this.resolve_left hj
      · exact ho j l (by omega)
    | 2, h =>
      have h : (!decide (l = x) && (ce_all C (fun j => decide (W l j = W x j)) && ce_ck R C rows cols T r (ce_zr W l))) = true := h
      rw [Bool.and_eq_true, Bool.and_eq_true] at h
      refine ce_dup (s := 1) (x := x) (Or.inl rfl) (by simpa using h.1) (fun j => ?_) (row h.2.2)
      rw [← s1]
      by_cases hc : j < C
      · exact decide_eq_true_iff.mp (ce_all_ok h.2.1 j hc)
      · rw [ho l j (by omega), ho x j (by omega)]
    | 3, h =>
      have h : (!decide (l = x) && (ce_all C (fun j => decide (W l j = - W x j)) && ce_ck R C rows cols T r (ce_zr W l))) = true := h
      rw [Bool.and_eq_true, Bool.and_eq_true] at h
      refine ce_dup (s := -1) (x := x) (Or.inr rfl) (by simpa using h.1) (fun j => ?_) (row h.2.2)
      rw [← s2]
      by_cases hc : j < C
      · exact decide_eq_true_iff.mp (ce_all_ok h.2.1 j hc)
      · rw [ho l j (by omega), ho x j (by omega)]; rfl
    | 4, h =>
      have h : (!decide (l = x) && (ce_all R (fun i => decide (W i l = W i x)) && ce_ck R C rows cols T r (ce_zc W l))) = true := h
      rw [Bool.and_eq_true, Bool.and_eq_true] at h
      refine cW (ce_dup (W := fun i j => W j i) (p := l) (s := 1) (x := x) (Or.inl rfl) (by simpa using h.1) (fun j => ?_) (col h.2.2))
      rw [← s1]
      by_cases hc : j < R
      · exact decide_eq_true_iff.mp (ce_all_ok h.2.1 j hc)
      · rw [ho j l (by omega), ho j x (by omega)]
    | k + 5, h =>
      have h : (!decide (l = x) && (ce_all R (fun i => decide (W i l = - W i x)) && ce_ck R C rows cols T r (ce_zc W l))) = true := h
      rw [Bool.and_eq_true, Bool.and_eq_true] at h
      refine cW (ce_dup (W := fun i j => W j i) (p := l) (s := -1) (x := x) (Or.inr rfl) (by simpa using h.1) (fun j => ?_) (col h.2.2))
      rw [← s2]
      by_cases hc : j < R
      · exact decide_eq_true_iff.mp (ce_all_ok h.2.1 j hc)
      · rw [ho j l (by omega), ho j x (by omega)]; rfl
def ce_h (W : Nat → Nat → Int) (c j : Nat) : Int := if W 0 c = 1 ∨ W 0 c = -1 then W 0 c * W 0 j else if W 0 j = W 0 c then 1 else if W 0 j = - W 0 c then -1 else 0
def ce_V (W : Nat → Nat → Int) (c : Nat) : Nat → Nat → Int := fun i j => W i j - W i c * ce_h W c j
/-- a branch: column, bound, lines taken away, places of rows and columns, the matrix where they lie -/
abbrev ce_B : Type := Nat × Int × List (Nat × Nat × Nat) × List Nat × List Nat × (Nat → Nat → Int)
def ce_br (b : Int) (R C : Nat) : List ce_B → (Nat → Nat → Int) → Bool
  | [], W => ce_all C (fun j => decide (W 0 j = 0))
  | (c, b', rem, rows, cols, T) :: r, W => ((ce_1 (W 0 c) && decide (b' ≤ b)) || ((decide (W 0 c = 2) || decide (W 0 c = -2)) && decide (2 * b' ≤ b))) && (ce_all C (fun j => decide (W 0 j = W 0 c * ce_h W c j)) && (ce_ck R C rows cols T rem (ce_V W c) && ce_br b R C r (ce_zc W c)))
def ce_ps : List ce_B → Prop
  | [] => True
  | (_, b', _, _, _, T) :: r => rk_M b' T ∧ ce_ps r
theorem ce_h_out {R C : Nat} {W : Nat → Nat → Int} (ho : ∀ i j, R ≤ i ∨ C ≤ j → W i j = 0) {c j : Nat} (hc : W 0 c ≠ 0) (hj : C ≤ j) : ce_h W c j = 0 := by
  have z : W 0 j = 0 := ho 0 j (Or.inr hj)
  unfold ce_h
  rw [z, Int.mul_zero]
  split
  · rfl
  · rw [if_neg (by omega), if_neg (by omega)]
theorem ce_br_ok {b : Int} {R C : Nat} : ∀ (L : List ce_B) (W : Nat → Nat → Int), (∀ i j, R ≤ i ∨ C ≤ j → W i j = 0) → ce_ps L → rk_M b (ce_zr W 0) → ce_br b R C L W = true → rk_M b W := by
  intro L
  induction L with
  | nil =>
    intro W ho _ h0 h
    have e : W = ce_zr W 0 := by
      funext i j
      unfold ce_zr
      split
      · rename_i hi
        rw [hi]
        by_cases hc : j < C
        · exact decide_eq_true_iff.mp (ce_all_ok h j hc)
        · exact ho 0 j (by omega)
      · rfl
    rw [e]; exact h0
  | cons a r ih =>
    obtain ⟨c, b', rem, rows, cols, T⟩ := a
    intro W ho hp h0 h
    have h : (((ce_1 (W 0 c) && decide (b' ≤ b)) || ((decide (W 0 c = 2) || decide (W 0 c = -2)) && decide (2 * b' ≤ b))) && (ce_all C (fun j => decide (W 0 j = W 0 c * ce_h W c j)) && (ce_ck R C rows cols T rem (ce_V W c) && ce_br b R C r (ce_zc W c)))) = true := h
    rw [Bool.and_eq_true, Bool.and_eq_true, Bool.and_eq_true] at h
    obtain ⟨h1, h2, h3, h4⟩ := h
    have hu : W 0 c = 1 ∧ b' ≤ b ∨ W 0 c = -1 ∧ b' ≤ b ∨ W 0 c = 2 ∧ 2 * b' ≤ b ∨ W 0 c = -2 ∧ 2 * b' ≤ b := by
      rw [Bool.or_eq_true, Bool.and_eq_true, Bool.and_eq_true, Bool.or_eq_true] at h1
      simp only [decide_eq_true_iff] at h1
      rcases h1 with ⟨u, v⟩ | ⟨u, v⟩
      · rcases ce_1_ok u with u | u
        · exact Or.inl ⟨u, v⟩
        · exact Or.inr (Or.inl ⟨u, v⟩)
      · rcases u with u | u
        · exact Or.inr (Or.inr (Or.inl ⟨u, v⟩))
        · exact Or.inr (Or.inr (Or.inr ⟨u, v⟩))
    have hn : W 0 c ≠ 0 := by omega
    have hh : ∀ j, W 0 j = W 0 c * ce_h W c j := by
      intro j
      by_cases hc : j < C
      · exact decide_eq_true_iff.mp (ce_all_ok h2 j hc)
      · rw [ce_h_out ho hn (by omega), Int.mul_zero]; exact ho 0 j (by omega)
    have hVo : ∀ i j, R ≤ i ∨ C ≤ j → ce_V W c i j = 0 := by
      intro i j hij
      unfold ce_V
      rw [ho i j hij]
      rcases hij with hi | hj
      · rw [ho i c (Or.inl hi), Int.zero_mul]; rfl
      · rw [ce_h_out ho hn hj, Int.mul_zero]; rfl
    refine rk_M_back (p := 0) (c := c) (V := ce_V W c) hu ?_ h0 ?_ (ce_ck_ok hp.1 rem _ hVo h3)
    · intro i j
      unfold ce_V
      rw [Int.mul_sub, Int.mul_left_comm, ← hh j]
    · refine ih (ce_zc W c) (ce_zc_out ho c) hp.2 ?_ h4
      have e : ce_zr (ce_zc W c) 0 = ce_zc (ce_zr W 0) c := by
        funext i j
        show (if i = 0 then 0 else if j = c then 0 else W i j) = (if j = c then 0 else if i = 0 then 0 else W i j)
        by_cases hi : i = 0
        · rw [if_pos hi]
          by_cases hj : j = c
          · rw [if_pos hj]
          · rw [if_neg hj, if_pos hi]
        · rw [if_neg hi]
          by_cases hj : j = c
          · rw [if_pos hj, if_pos hj]
          · rw [if_neg hj, if_neg hj, if_neg hi]
      rw [e]
      exact ce_zc_M c h0
theorem ce_st {b b1 : Int} {R C M : Nat} {T : Nat → Nat → Int} {rem : List (Nat × Nat × Nat)} {rows cols : List Nat} {L : List ce_B} (h : (decide (b1 ≤ b) && (ce_ck R C rows cols T rem (ce_zr (ce_F R C M) 0) && ce_br b R C L (ce_F R C M))) = true) (hT : rk_M b1 T) (hp : ce_ps L) : rk_M b (ce_F R C M) := by
  rw [Bool.and_eq_true, Bool.and_eq_true] at h
  have ho : ∀ i j, R ≤ i ∨ C ≤ j → ce_F R C M i j = 0 := fun i j z => ce_F_out z
  exact ce_br_ok L _ ho hp (ce_le (decide_eq_true_iff.mp h.1) (ce_ck_ok hT rem _ (ce_zr_out ho 0) h.2.1)) h.2.2
theorem ce_nil : rk_M 1 (fun _ _ => 0) := by
  intro n ρ γ
  cases n with
  | zero => show (-1 : Int) ≤ 1 ∧ (1 : Int) ≤ 1; decide
  | succ n => rw [dt_zrow (k := 0) (by omega) (fun _ _ => rfl)]; decide
theorem ce_pn : ce_ps [] := trivial
theorem ce_pc {c : Nat} {b' : Int} {rem : List (Nat × Nat × Nat)} {rows cols : List Nat} {T : Nat → Nat → Int} {r : List ce_B} (h : rk_M b' T) (hr : ce_ps r) : ce_ps ((c, b', rem, rows, cols, T) :: r) := show rk_M b' T ∧ ce_ps r from And.intro h hr
