section
/-! finite sums of whole numbers -/
def dt_sum : Nat → (Nat → Int) → Int
  | 0, _ => 0
  | n + 1, f => dt_sum n f + f n
theorem dt_sum_s (n : Nat) (f : Nat → Int) : dt_sum (n + 1) f = dt_sum n f + f n := rfl
theorem dt_sum_congr {n : Nat} {f g : Nat → Int} (h : ∀ k, k < n → f k = g k) : dt_sum n f = dt_sum n g := by
  induction n with
  | zero => rfl
  | succ n ih => rw [dt_sum_s, dt_sum_s, ih (fun k hk => h k (by omega)), h n (by omega)]
theorem dt_sum_add (n : Nat) (f g : Nat → Int) : dt_sum n (fun k => f k + g k) = dt_sum n f + dt_sum n g := by
  induction n with
  | zero => rfl
  | succ n ih => rw [dt_sum_s, dt_sum_s, dt_sum_s, ih]; omega
theorem dt_sum_mul (n : Nat) (c : Int) (f : Nat → Int) : dt_sum n (fun k => c * f k) = c * dt_sum n f := by
  induction n with
  | zero => exact (Int.mul_zero c).symm
  | succ n ih => rw [dt_sum_s, dt_sum_s, ih, Int.mul_add]
theorem dt_sum_neg (n : Nat) (f : Nat → Int) : dt_sum n (fun k => - f k) = - dt_sum n f := by
  induction n with
  | zero => rfl
  | succ n ih => rw [dt_sum_s, dt_sum_s, ih]; omega
theorem dt_sum_zero {n : Nat} {f : Nat → Int} (h : ∀ k, k < n → f k = 0) : dt_sum n f = 0 := by
  induction n with
  | zero => rfl
  | succ n ih => rw [dt_sum_s, ih (fun k hk => h k (by omega)), h n (by omega)]; rfl
theorem dt_sum_first (n : Nat) (f : Nat → Int) : dt_sum (n + 1) f = f 0 + dt_sum n (fun k => f (k + 1)) := by
  induction n with
  | zero => show (0 : Int) + f 0 = f 0 + 0; omega
  | succ n ih => rw [dt_sum_s, ih, dt_sum_s]; omega
theorem dt_sum_swap (n m : Nat) (f : Nat → Nat → Int) : dt_sum n (fun i => dt_sum m (fun j => f i j)) = dt_sum m (fun j => dt_sum n (fun i => f i j)) := by
  induction n with
  | zero => exact (dt_sum_zero (fun _ _ => rfl)).symm
  | succ n ih =>
    rw [dt_sum_s, ih, ← dt_sum_add]
    exact dt_sum_congr (fun k _ => rfl)
theorem dt_sum_dvd {n : Nat} {q : Int} {f : Nat → Int} (h : ∀ k, k < n → q ∣ f k) : q ∣ dt_sum n f := by
  induction n with
  | zero => exact Int.dvd_zero q
  | succ n ih => rw [dt_sum_s]; exact Int.dvd_add (ih (fun k hk => h k (by omega))) (h n (by omega))
theorem dt_sum_ex {f g : Nat → Int} {i : Nat} (h1 : g i = - f (i + 1)) (h2 : g (i + 1) = - f i) (d : Nat) (h : ∀ k, k < i + 2 + d → k ≠ i → k ≠ i + 1 → g k = - f k) : dt_sum (i + 2 + d) g = - dt_sum (i + 2 + d) f := by
  induction d with
  | zero =>
    show dt_sum i g + g i + g (i + 1) = - (dt_sum i f + f i + f (i + 1))
    rw [h1, h2, dt_sum_congr (g := fun k => - f k) (fun k hk => h k (by omega) (by omega) (by omega)), dt_sum_neg]
    omega
  | succ d ih =>
    show dt_sum (i + 2 + d) g + g (i + 2 + d) = - (dt_sum (i + 2 + d) f + f (i + 2 + d))
    rw [ih (fun k hk => h k (by omega)), h (i + 2 + d) (by omega) (by omega) (by omega)]
    omega
/-! signs, skipping, determinants by the first column -/
def dt_sg : Nat → Int
  | 0 => 1
  | k + 1 => - dt_sg k
theorem dt_sg_s (k : Nat) : dt_sg (k + 1) = - dt_sg k := rfl
theorem dt_sg_or (k : Nat) : dt_sg k = 1 ∨ dt_sg k = -1 := by
  induction k with
  | zero => exact Or.inl rfl
  | succ k ih => rw [dt_sg_s]; omega
def dt_sk (i k : Nat) : Nat := if k < i then k else k + 1
def dt_det : Nat → (Nat → Nat → Int) → Int
  | 0, _ => 1
  | n + 1, B => dt_sum (n + 1) (fun i => dt_sg i * (B i 0 * dt_det n (fun a b => B (dt_sk i a) (b + 1))))
theorem dt_det_s (n : Nat) (B : Nat → Nat → Int) : dt_det (n + 1) B = dt_sum (n + 1) (fun i => dt_sg i * (B i 0 * dt_det n (fun a b => B (dt_sk i a) (b + 1)))) := rfl
theorem dt_det_congr {n : Nat} : ∀ {B C : Nat → Nat → Int}, (∀ i j, i < n → j < n → B i j = C i j) → dt_det n B = dt_det n C := by
  induction n with
  | zero => intro B C _; rfl
  | succ n ih =>
    intro B C h
    rw [dt_det_s, dt_det_s]
    refine dt_sum_congr (fun k hk => ?_)
    rw [h k 0 hk (by omega), ih (B := fun a b => B (dt_sk k a) (b + 1)) (C := fun a b => C (dt_sk k a) (b + 1))]
    intro i j hi hj
    exact h _ _ (by unfold dt_sk; split <;> omega) (by omega)
theorem dt_det_ext {n : Nat} {B C : Nat → Nat → Int} (h : ∀ i j, B i j = C i j) : dt_det n B = dt_det n C := dt_det_congr (fun i j _ _ => h i j)
/-! two rows beside each other change places -/
def dt_sw (i k : Nat) : Nat := if k = i then i + 1 else if k = i + 1 then i else k
theorem dt_sw_lt {i k : Nat} (h : k < i) : dt_sw i k = k := by
  unfold dt_sw
  rw [if_neg (by omega), if_neg (by omega)]
theorem dt_sw_at (i : Nat) : dt_sw i i = i + 1 := by
  unfold dt_sw
  rw [if_pos rfl]
theorem dt_swap {n : Nat} : ∀ (B : Nat → Nat → Int) (i : Nat), i + 1 < n → dt_det n (fun a b => B (dt_sw i a) b) = - dt_det n B := by
  induction n with
  | zero => intro B i h; omega
  | succ n ih =>
    intro B i h
    obtain ⟨d, hd⟩ : ∃ d, n + 1 = i + 2 + d := ⟨n + 1 - (i + 2), by omega⟩
    rw [dt_det_s, dt_det_s, hd]
    refine dt_sum_ex (i := i) ?_ ?_ d ?_
    · have e : dt_sw i i = i + 1 := by simp [dt_sw]
      rw [e, dt_sg_s, Int.neg_mul, Int.neg_neg]
      congr 2
      refine dt_det_ext (fun a b => ?_)
      congr 1
      unfold dt_sw dt_sk
      repeat' split
      all_goals omega
    · have e : dt_sw i (i + 1) = i := by simp [dt_sw]
      rw [e, dt_sg_s, Int.neg_mul]
      congr 3
      refine dt_det_ext (fun a b => ?_)
      congr 1
      unfold dt_sw dt_sk
      repeat' split
      all_goals omega
    · intro k hk h1 h2
      have e : dt_sw i k = k := by simp [dt_sw, h1, h2]
      rw [e]
      have key : dt_det n (fun a b => B (dt_sw i (dt_sk k a)) (b + 1)) = - dt_det n (fun a b => B (dt_sk k a) (b + 1)) := by
        by_cases hki : k < i
        · rw [← ih (fun a b => B (dt_sk k a) (b + 1)) (i - 1) (by omega)]
          refine dt_det_ext (fun a b => ?_)
          show B _ _ = B _ _
          congr 1
          unfold dt_sw dt_sk
          repeat' split
          all_goals omega
        · rw [← ih (fun a b => B (dt_sk k a) (b + 1)) i (by omega)]
          refine dt_det_ext (fun a b => ?_)
          show B _ _ = B _ _
          congr 1
          unfold dt_sw dt_sk
          repeat' split
          all_goals omega
      rw [key, Int.mul_neg, Int.mul_neg]
/-! two equal rows -/
theorem dt_eqrow (n : Nat) : ∀ (d k : Nat) (B : Nat → Nat → Int), k + d + 1 < n → (∀ b, B k b = B (k + d + 1) b) → dt_det n B = 0 := by
  intro d
  induction d with
  | zero =>
    intro k B h e
    have s := dt_swap B k (n := n) (by omega)
    have t : dt_det n (fun a b => B (dt_sw k a) b) = dt_det n B := by
      refine dt_det_ext (fun a b => ?_)
      show B (dt_sw k a) b = B a b
      unfold dt_sw
      split
      · rename_i ha; rw [ha]; exact (e b).symm
      · split
        · rename_i ha; rw [ha]; exact e b
        · rfl
    omega
  | succ d ih =>
    intro k B h e
    have s := dt_swap B (k + d + 1) (n := n) (by omega)
    have t := ih k (fun a b => B (dt_sw (k + d + 1) a) b) (by omega) (fun b => by
      show B (dt_sw (k + d + 1) k) b = B (dt_sw (k + d + 1) (k + d + 1)) b
      rw [dt_sw_lt (by omega), dt_sw_at]; exact e b)
    omega
theorem dt_eqrows {n i k : Nat} {B : Nat → Nat → Int} (hi : i < n) (hk : k < n) (hne : i ≠ k) (e : ∀ b, B i b = B k b) : dt_det n B = 0 := by
  by_cases h : i < k
  · obtain ⟨d, rfl⟩ : ∃ d, k = i + d + 1 := ⟨k - i - 1, by omega⟩
    exact dt_eqrow n d i B hk e
  · obtain ⟨d, rfl⟩ : ∃ d, i = k + d + 1 := ⟨i - k - 1, by omega⟩
    exact dt_eqrow n d k B hi (fun b => (e b).symm)
/-! linear in each row -/
def dt_up (B : Nat → Nat → Int) (k : Nat) (v : Nat → Int) : Nat → Nat → Int := fun a b => if a = k then v b else B a b
theorem dt_up_s (B : Nat → Nat → Int) (k : Nat) (v : Nat → Int) (b : Nat) : dt_up B k v k b = v b := by simp [dt_up]
theorem dt_up_n (B : Nat → Nat → Int) {k a : Nat} (v : Nat → Int) (b : Nat) (h : a ≠ k) : dt_up B k v a b = B a b := by simp [dt_up, h]
theorem dt_lin {n : Nat} : ∀ (B : Nat → Nat → Int) (k : Nat) (x y : Nat → Int) (c : Int), k < n → dt_det n (dt_up B k (fun b => x b + c * y b)) = dt_det n (dt_up B k x) + c * dt_det n (dt_up B k y) := by
  induction n with
  | zero => intro B k x y c h; omega
  | succ n ih =>
    intro B k x y c h
    rw [dt_det_s, dt_det_s, dt_det_s, ← dt_sum_mul, ← dt_sum_add]
    refine dt_sum_congr (fun i hi => ?_)
    by_cases hik : i = k
    · subst hik
      have e : ∀ v : Nat → Int, dt_det n (fun a b => dt_up B i v (dt_sk i a) (b + 1)) = dt_det n (fun a b => B (dt_sk i a) (b + 1)) := by
        intro v
        refine dt_det_ext (fun a b => dt_up_n B v (b + 1) ?_)
        unfold dt_sk; split <;> omega
      rw [e, e, e, dt_up_s, dt_up_s, dt_up_s]
      generalize dt_det n (fun a b => B (dt_sk i a) (b + 1)) = D
      rw [Int.add_mul, Int.mul_add, Int.mul_assoc, Int.mul_left_comm (dt_sg i) c]
    · have e : ∀ v : Nat → Int, dt_det n (fun a b => dt_up B k v (dt_sk i a) (b + 1)) = dt_det n (dt_up (fun a b => B (dt_sk i a) (b + 1)) (if k < i then k else k - 1) (fun b => v (b + 1))) := by
        intro v
        refine dt_det_ext (fun a b => ?_)
        show (if dt_sk i a = k then v (b + 1) else B (dt_sk i a) (b + 1)) = (if a = (if k < i then k else k - 1) then v (b + 1) else B (dt_sk i a) (b + 1))
        have hh : dt_sk i a = k ↔ a = (if k < i then k else k - 1) := by
          unfold dt_sk
          split <;> split <;> omega
        by_cases ha : dt_sk i a = k
        · rw [if_pos ha, if_pos (hh.mp ha)]
        · rw [if_neg ha, if_neg (fun z => ha (hh.mpr z))]
      rw [e, e, e, dt_up_n B _ 0 hik, dt_up_n B _ 0 hik, dt_up_n B _ 0 hik]
      rw [ih _ _ (fun b => x (b + 1)) (fun b => y (b + 1)) c (by split <;> omega)]
      generalize dt_det n (dt_up (fun a b => B (dt_sk i a) (b + 1)) (if k < i then k else k - 1) fun b => x (b + 1)) = X
      generalize dt_det n (dt_up (fun a b => B (dt_sk i a) (b + 1)) (if k < i then k else k - 1) fun b => y (b + 1)) = Y
      rw [Int.mul_add, Int.mul_add, Int.mul_left_comm (B i 0) c, Int.mul_left_comm (dt_sg i) c]
theorem dt_lin_zero {n k : Nat} (B : Nat → Nat → Int) (h : k < n) : dt_det n (dt_up B k (fun _ => 0)) = 0 := by
  have := dt_lin B k (fun _ => 0) (fun _ => 0) 1 h
  have e : dt_det n (dt_up B k (fun b => (fun _ => (0 : Int)) b + 1 * (fun _ => (0 : Int)) b)) = dt_det n (dt_up B k (fun _ => 0)) := rfl
  rw [e] at this
  omega
theorem dt_lin_mul {n k : Nat} (B : Nat → Nat → Int) (y : Nat → Int) (c : Int) (h : k < n) : dt_det n (dt_up B k (fun b => c * y b)) = c * dt_det n (dt_up B k y) := by
  have := dt_lin B k (fun _ => 0) y c h
  rw [dt_lin_zero B h, Int.zero_add] at this
  rw [← this]
  refine dt_det_ext (fun a b => ?_)
  unfold dt_up
  split
  · exact (Int.zero_add _).symm
  · rfl
theorem dt_zrow {n k : Nat} {B : Nat → Nat → Int} (h : k < n) (e : ∀ b, b < n → B k b = 0) : dt_det n B = 0 := by
  rw [← dt_lin_zero B h]
  refine dt_det_congr (fun a b _ hb => ?_)
  unfold dt_up
  split
  · rename_i ha; rw [ha]; exact e b hb
  · rfl
/-! rows and columns change roles -/
theorem dt_tr : ∀ (n : Nat) (B : Nat → Nat → Int), dt_det n (fun a b => B b a) = dt_det n B := by
  intro n
  induction n using Nat.strongRecOn with
  | _ n ih =>
    match n, ih with
    | 0, _ => intro B; rfl
    | 1, _ => intro B; rfl
    | m + 2, ih =>
      have ex : ∀ B : Nat → Nat → Int, dt_det (m + 2) B = B 0 0 * dt_det (m + 1) (fun a b => B (a + 1) (b + 1)) + dt_sum (m + 1) (fun i => dt_sum (m + 1) (fun j => - (dt_sg i * (dt_sg j * (B (i + 1) 0 * (B 0 (j + 1) * dt_det m (fun a b => B (dt_sk i a + 1) (dt_sk j b + 1)))))))) := by
        intro B
        rw [dt_det_s, dt_sum_first]
        congr 1
        · show (1 : Int) * (B 0 0 * dt_det (m + 1) (fun a b => B (dt_sk 0 a) (b + 1))) = _
          rw [Int.one_mul]
          rfl
        · refine dt_sum_congr (fun i hi => ?_)
          rw [← ih (m + 1) (by omega) (fun a b => B (dt_sk (i + 1) a) (b + 1)), dt_det_s, dt_sg_s, Int.neg_mul, ← Int.mul_neg, ← Int.mul_neg, ← dt_sum_neg, ← dt_sum_mul, ← dt_sum_mul]
          refine dt_sum_congr (fun j hj => ?_)
          have e : dt_det m (fun a b => B (dt_sk (i + 1) (b + 1)) (dt_sk j a + 1)) = dt_det m (fun a b => B (dt_sk i a + 1) (dt_sk j b + 1)) := by
            rw [← ih m (by omega) (fun a b => B (dt_sk i a + 1) (dt_sk j b + 1))]
            refine dt_det_ext (fun a b => ?_)
            have : dt_sk (i + 1) (b + 1) = dt_sk i b + 1 := by unfold dt_sk; split <;> split <;> omega
            rw [this]
          show dt_sg i * (B (i + 1) 0 * -(dt_sg j * (B (dt_sk (i + 1) 0) (j + 1) * dt_det m (fun a b => B (dt_sk (i + 1) (b + 1)) (dt_sk j a + 1))))) = _
          have e0 : dt_sk (i + 1) 0 = 0 := by unfold dt_sk; split <;> omega
          rw [e, e0, Int.mul_neg, Int.mul_neg, Int.mul_left_comm (B (i + 1) 0) (dt_sg j)]
      intro B
      rw [ex B, ex (fun a b => B b a)]
      congr 1
      · rw [← ih (m + 1) (by omega) (fun a b => B (a + 1) (b + 1))]
      · rw [dt_sum_swap]
        refine dt_sum_congr (fun i hi => dt_sum_congr (fun j hj => ?_))
        rw [← ih m (by omega) (fun a b => B (dt_sk i a + 1) (dt_sk j b + 1))]
        generalize dt_det m (fun a b => B (dt_sk i b + 1) (dt_sk j a + 1)) = D
        show - (dt_sg j * (dt_sg i * (B 0 (j + 1) * (B (i + 1) 0 * D)))) = - (dt_sg i * (dt_sg j * (B (i + 1) 0 * (B 0 (j + 1) * D))))
        rw [Int.mul_left_comm (dt_sg j) (dt_sg i), Int.mul_left_comm (B 0 (j + 1)) (B (i + 1) 0)]
theorem dt_row0 (n : Nat) (B : Nat → Nat → Int) : dt_det (n + 1) B = dt_sum (n + 1) (fun j => dt_sg j * (B 0 j * dt_det n (fun a b => B (a + 1) (dt_sk j b)))) := by
  rw [← dt_tr (n + 1) B, dt_det_s]
  refine dt_sum_congr (fun j hj => ?_)
  rw [← dt_tr n (fun a b => B (a + 1) (dt_sk j b))]
/-! a row comes to the front -/
def dt_fr (k : Nat) : Nat → Nat
  | 0 => k
  | a + 1 => dt_sk k a
theorem dt_front {n : Nat} : ∀ (k : Nat) (B : Nat → Nat → Int), k < n → dt_det n (fun a b => B (dt_fr k a) b) = dt_sg k * dt_det n B := by
  intro k
  induction k with
  | zero =>
    intro B h
    show _ = (1 : Int) * _
    rw [Int.one_mul]
    refine dt_det_ext (fun a b => ?_)
    cases a with
    | zero => rfl
    | succ a => rfl
  | succ k ih =>
    intro B h
    have e := ih (fun a b => B (dt_sw k a) b) (by omega)
    rw [dt_swap B k h, Int.mul_neg, ← Int.neg_mul, ← dt_sg_s] at e
    rw [← e]
    refine dt_det_ext (fun a b => ?_)
    show B (dt_fr (k + 1) a) b = B (dt_sw k (dt_fr k a)) b
    congr 1
    cases a with
    | zero => show k + 1 = dt_sw k k; simp [dt_sw]
    | succ a =>
      show dt_sk (k + 1) a = dt_sw k (dt_sk k a)
      unfold dt_sk dt_sw
      repeat' split
      all_goals omega
theorem dt_frontc {n k : Nat} (B : Nat → Nat → Int) (h : k < n) : dt_det n (fun a b => B a (dt_fr k b)) = dt_sg k * dt_det n B := by
  rw [← dt_tr n (fun a b => B a (dt_fr k b)), ← dt_tr n B]
  exact dt_front k (fun a b => B b a) h
/-! a factor at every entry -/
theorem dt_scale (c : Int) : ∀ (n : Nat) (B : Nat → Nat → Int), dt_det n (fun a b => c * B a b) = c ^ n * dt_det n B := by
  intro n
  induction n with
  | zero => intro B; rw [Int.pow_zero, Int.one_mul]; rfl
  | succ n ih =>
    intro B
    rw [dt_det_s, dt_det_s, ← dt_sum_mul]
    refine dt_sum_congr (fun i hi => ?_)
    rw [ih (fun a b => B (dt_sk i a) (b + 1)), Int.pow_succ]
    generalize dt_det n (fun a b => B (dt_sk i a) (b + 1)) = D
    generalize c ^ n = p
    generalize dt_sg i = s
    generalize B i 0 = x
    grind
/-! Chio: a row of the first kind at every place but the first -/
theorem dt_chio (n : Nat) (B : Nat → Nat → Int) : B 0 0 * dt_det n (fun i j => B 0 0 * B (i + 1) (j + 1) - B (i + 1) 0 * B 0 (j + 1)) = B 0 0 ^ n * dt_det (n + 1) B := by
  have step : ∀ k, k ≤ n → dt_det (n + 1) (fun i j => if 0 < i ∧ i ≤ k then B 0 0 * B i j - B i 0 * B 0 j else B i j) = B 0 0 ^ k * dt_det (n + 1) B := by
    intro k
    induction k with
    | zero =>
      intro _
      rw [Int.pow_zero, Int.one_mul]
      refine dt_det_ext (fun i j => ?_)
      rw [if_neg (by omega)]
    | succ k ih =>
      intro hk
      have e := dt_lin (n := n + 1) (fun i j => if 0 < i ∧ i ≤ k then B 0 0 * B i j - B i 0 * B 0 j else B i j) (k + 1) (fun j => B 0 0 * B (k + 1) j) (fun j => B 0 j) (- B (k + 1) 0) (by omega)
      rw [dt_lin_mul _ (fun j => B (k + 1) j) (B 0 0) (by omega)] at e
      have z : dt_det (n + 1) (dt_up (fun i j => if 0 < i ∧ i ≤ k then B 0 0 * B i j - B i 0 * B 0 j else B i j) (k + 1) (fun j => B 0 j)) = 0 := by
        refine dt_eqrows (i := 0) (k := k + 1) (by omega) (by omega) (by omega) (fun b => ?_)
        rw [dt_up_s, dt_up_n _ _ _ (by omega), if_neg (by omega)]
      have o : dt_det (n + 1) (dt_up (fun i j => if 0 < i ∧ i ≤ k then B 0 0 * B i j - B i 0 * B 0 j else B i j) (k + 1) (fun j => B (k + 1) j)) = B 0 0 ^ k * dt_det (n + 1) B := by
        rw [← ih (by omega)]
        refine dt_det_ext (fun a b => ?_)
        unfold dt_up
        split
        · rename_i ha; rw [ha, if_neg (by omega)]
        · rfl
      rw [z, o, Int.mul_zero, Int.add_zero, ← Int.mul_assoc, Int.mul_comm (B 0 0), ← Int.pow_succ] at e
      rw [← e]
      refine dt_det_ext (fun a b => ?_)
      unfold dt_up
      by_cases ha : a = k + 1
      · subst ha
        rw [if_pos rfl, if_pos (by omega)]
        dsimp only
        rw [Int.neg_mul, Int.sub_eq_add_neg]
      · rw [if_neg ha]
        dsimp only
        by_cases hb : 0 < a ∧ a ≤ k
        · rw [if_pos hb, if_pos (by omega)]
        · rw [if_neg hb, if_neg (by omega)]
  rw [← step n (Nat.le_refl n), dt_det_s, dt_sum_first, dt_sum_zero, Int.add_zero]
  · show _ = (1 : Int) * _
    rw [Int.one_mul, if_neg (by omega)]
    congr 1
    refine dt_det_congr (fun i j hi hj => ?_)
    show _ = (if 0 < i + 1 ∧ i + 1 ≤ n then B 0 0 * B (i + 1) (j + 1) - B (i + 1) 0 * B 0 (j + 1) else B (i + 1) (j + 1))
    rw [if_pos (by omega)]
  · intro i hi
    show dt_sg (i + 1) * ((if 0 < i + 1 ∧ i + 1 ≤ n then B 0 0 * B (i + 1) 0 - B (i + 1) 0 * B 0 0 else B (i + 1) 0) * _) = 0
    rw [if_pos (by omega), Int.mul_comm (B 0 0), Int.sub_self, Int.zero_mul, Int.mul_zero]
end
section
/-! minors, rank at q, bounds -/
theorem rk_dm {q x : Int} (c : Int) (h : q ∣ x) : q ∣ c * x := Int.dvd_trans h (Int.dvd_mul_left c x)
theorem rk_mod {q : Int} : ∀ {n : Nat} {B C : Nat → Nat → Int}, (∀ i j, q ∣ B i j - C i j) → q ∣ dt_det n B - dt_det n C := by
  intro n
  induction n with
  | zero => intro B C h; exact Int.dvd_zero q
  | succ n ih =>
    intro B C h
    rw [dt_det_s, dt_det_s, Int.sub_eq_add_neg, ← dt_sum_neg, ← dt_sum_add]
    refine dt_sum_dvd (fun i hi => ?_)
    have h1 := h i 0
    have h2 := ih (B := fun a b => B (dt_sk i a) (b + 1)) (C := fun a b => C (dt_sk i a) (b + 1)) (fun a b => h _ _)
    generalize dt_det n (fun a b => B (dt_sk i a) (b + 1)) = D at *
    generalize dt_det n (fun a b => C (dt_sk i a) (b + 1)) = E at *
    have e : dt_sg i * (B i 0 * D) + -(dt_sg i * (C i 0 * E)) = dt_sg i * D * (B i 0 - C i 0) + dt_sg i * C i 0 * (D - E) := by grind
    rw [e]
    exact Int.dvd_add (rk_dm _ h1) (rk_dm _ h2)
def rk_Z (q : Int) (n : Nat) (W : Nat → Nat → Int) : Prop := ∀ ρ γ : Nat → Nat, q ∣ dt_det n (fun i j => W (ρ i) (γ j))
theorem rk_Z_mono {q : Int} {n : Nat} {W : Nat → Nat → Int} (h : rk_Z q n W) : rk_Z q (n + 1) W := by
  intro ρ γ
  rw [dt_det_s]
  exact dt_sum_dvd (fun i _ => rk_dm _ (rk_dm _ (h (fun a => ρ (dt_sk i a)) (fun b => γ (b + 1)))))
theorem rk_Z_le {q : Int} {n m : Nat} {W : Nat → Nat → Int} (hnm : n ≤ m) (h : rk_Z q n W) : rk_Z q m W := by
  induction m with
  | zero => have : n = 0 := by omega
            rw [← this]; exact h
  | succ m ih =>
    by_cases e : n = m + 1
    · rw [← e]; exact h
    · exact rk_Z_mono (ih (by omega))
theorem rk_Z_re {q : Int} {n : Nat} {W V : Nat → Nat → Int} (ρ γ : Nat → Nat) (e : ∀ i j, V i j = W (ρ i) (γ j)) (h : rk_Z q n W) : rk_Z q n V := by
  intro ρ' γ'
  rw [dt_det_ext (fun i j => e (ρ' i) (γ' j))]
  exact h (fun i => ρ (ρ' i)) (fun j => γ (γ' j))
theorem rk_Z_mod {q : Int} {n : Nat} {W V : Nat → Nat → Int} (e : ∀ i j, q ∣ V i j - W i j) (h : rk_Z q n W) : rk_Z q n V := by
  intro ρ γ
  have h1 := h ρ γ
  have h2 := rk_mod (n := n) (B := fun i j => V (ρ i) (γ j)) (C := fun i j => W (ρ i) (γ j)) (fun i j => e _ _)
  have := Int.dvd_add h2 h1
  rwa [Int.sub_add_cancel] at this
/-- q is 0 or a prime -/
def rk_P (q : Int) : Prop := (∀ a b : Int, q ∣ a * b → q ∣ a ∨ q ∣ b) ∧ ¬ q ∣ 1
theorem rk_pw {q : Int} (hq : rk_P q) {a x : Int} (ha : ¬ q ∣ a) : ∀ n : Nat, q ∣ a ^ n * x → q ∣ x := by
  intro n
  induction n with
  | zero => intro h; rw [Int.pow_zero, Int.one_mul] at h; exact h
  | succ n ih =>
    intro h
    rw [Int.pow_succ, Int.mul_comm (a ^ n), Int.mul_assoc] at h
    exact ih ((hq.1 _ _ h).resolve_left ha)
def rk_co (p : Nat) (ρ : Nat → Nat) : Nat → Nat
  | 0 => p
  | i + 1 => ρ i
def rk_S (W : Nat → Nat → Int) (p c : Nat) : Nat → Nat → Int := fun i j => W p c * W i j - W i c * W p j
theorem rk_chio (W : Nat → Nat → Int) (p c n : Nat) (ρ γ : Nat → Nat) : W p c * dt_det n (fun i j => rk_S W p c (ρ i) (γ j)) = W p c ^ n * dt_det (n + 1) (fun i j => W (rk_co p ρ i) (rk_co c γ j)) :=
  dt_chio n (fun i j => W (rk_co p ρ i) (rk_co c γ j))
/-! one vector added to the rows, each time with a factor -/
theorem rk_one {q : Int} {N : Nat} (S : Nat → Nat → Int) (u : Nat → Int) (c : Nat → Int) (h0 : q ∣ dt_det N S) (h1 : ∀ m, m < N → q ∣ dt_det N (dt_up S m u)) : q ∣ dt_det N (fun i j => S i j + c i * u j) := by
  have eqG : ∀ k, ∀ i j, (if i < k + 1 then S i j + c i * u j else S i j) = dt_up (fun i j => if i < k then S i j + c i * u j else S i j) k (fun j => S k j + c k * u j) i j := by
    intro k i j
    unfold dt_up
    by_cases h : i = k
    · subst h; rw [if_pos (by omega), if_pos rfl]
    · rw [if_neg h]
      dsimp only
      by_cases h2 : i < k
      · rw [if_pos (by omega), if_pos h2]
      · rw [if_neg (by omega), if_neg h2]
  have hb : ∀ k m, k ≤ m → m < N → q ∣ dt_det N (dt_up (fun i j => if i < k then S i j + c i * u j else S i j) m u) := by
    intro k
    induction k with
    | zero =>
      intro m _ hm
      rw [dt_det_ext (C := dt_up S m u) (fun i j => by unfold dt_up; simp)]
      exact h1 m hm
    | succ k ih =>
      intro m hkm hm
      have e : dt_det N (dt_up (fun i j => if i < k + 1 then S i j + c i * u j else S i j) m u) = dt_det N (dt_up (dt_up (fun i j => if i < k then S i j + c i * u j else S i j) m u) k (fun j => S k j + c k * u j)) := by
        refine dt_det_ext (fun i j => ?_)
        by_cases h : i = k
        · subst h
          rw [dt_up_s, dt_up_n _ _ _ (by omega), if_pos (by omega)]
        · rw [dt_up_n _ _ _ h]
          by_cases h2 : i = m
          · subst h2; rw [dt_up_s, dt_up_s]
          · rw [dt_up_n _ _ _ h2, dt_up_n _ _ _ h2, eqG, dt_up_n _ _ _ h]
      rw [e, dt_lin _ k _ _ _ (by omega)]
      refine Int.dvd_add ?_ (rk_dm _ ?_)
      · rw [dt_det_ext (C := dt_up (fun i j => if i < k then S i j + c i * u j else S i j) m u) (fun i j => ?_)]
        · exact ih m (by omega) hm
        · by_cases h : i = k
          · subst h
            rw [dt_up_s, dt_up_n _ _ _ (by omega), if_neg (by omega)]
          · rw [dt_up_n _ _ _ h]
      · rw [dt_eqrows (i := k) (k := m) (by omega) hm (by omega) (fun b => ?_)]
        · exact Int.dvd_zero q
        · rw [dt_up_s, dt_up_n _ _ _ (by omega), dt_up_s]
  have ha : ∀ k, k ≤ N → q ∣ dt_det N (fun i j => if i < k then S i j + c i * u j else S i j) := by
    intro k
    induction k with
    | zero =>
      intro _
      rw [dt_det_ext (C := S) (fun i j => by simp)]
      exact h0
    | succ k ih =>
      intro hk
      rw [dt_det_ext (eqG k), dt_lin _ k _ _ _ (by omega)]
      refine Int.dvd_add ?_ (rk_dm _ (hb k k (Nat.le_refl k) (by omega)))
      rw [dt_det_ext (C := fun i j => if i < k then S i j + c i * u j else S i j) (fun i j => ?_)]
      · exact ih (by omega)
      · by_cases h : i = k
        · subst h; rw [dt_up_s, if_neg (by omega)]
        · rw [dt_up_n _ _ _ h]
  have := ha N (Nat.le_refl N)
  rw [dt_det_congr (C := fun i j => S i j + c i * u j) (fun i j hi _ => by rw [if_pos hi])] at this
  exact this
theorem rk_sgd {q x : Int} {k : Nat} (h : q ∣ dt_sg k * x) : q ∣ x := by
  rcases dt_sg_or k with e | e
  · rw [e, Int.one_mul] at h; exact h
  · rw [e, Int.neg_mul, Int.one_mul] at h; exact (Int.dvd_neg).mp h
theorem rk_piv {q : Int} (hq : rk_P q) {W : Nat → Nat → Int} {p c : Nat} (ha : ¬ q ∣ W p c) (n : Nat) : rk_Z q (n + 1) W ↔ rk_Z q n (rk_S W p c) := by
  constructor
  · intro h ρ γ
    have e := rk_chio W p c n ρ γ
    have h1 : q ∣ W p c ^ n * dt_det (n + 1) (fun i j => W (rk_co p ρ i) (rk_co c γ j)) := rk_dm _ (h _ _)
    rw [← e] at h1
    exact (hq.1 _ _ h1).resolve_left ha
  · intro h ρ γ
    have key := rk_one (q := q) (N := n + 1) (fun i j => rk_S W p c (ρ i) (γ j)) (fun j => W p (γ j)) (fun i => W (ρ i) c) (rk_Z_mono h ρ γ) (fun m hm => by
      refine rk_sgd (k := m) ?_
      rw [← dt_front m _ hm, dt_row0]
      refine dt_sum_dvd (fun j _ => rk_dm _ (rk_dm _ ?_))
      rw [dt_det_ext (C := fun a b => rk_S W p c (ρ (dt_sk m a)) (γ (dt_sk j b))) (fun a b => ?_)]
      · exact h (fun a => ρ (dt_sk m a)) (fun b => γ (dt_sk j b))
      · exact dt_up_n _ _ _ (show dt_sk m a ≠ m by unfold dt_sk; split <;> omega))
    rw [dt_det_ext (C := fun i j => W p c * W (ρ i) (γ j)) (fun i j => by
      show W p c * W (ρ i) (γ j) - W (ρ i) c * W p (γ j) + W (ρ i) c * W p (γ j) = _
      rw [Int.sub_add_cancel]), dt_scale (W p c) (n + 1) (fun i j => W (ρ i) (γ j))] at key
    exact rk_pw hq ha (n + 1) key
/-- the rank of W at q is r -/
def rk_R (q : Int) (W : Nat → Nat → Int) (r : Nat) : Prop := ∀ n, rk_Z q n W ↔ r < n
theorem rk_uni {q : Int} {W : Nat → Nat → Int} {r s : Nat} (h1 : rk_R q W r) (h2 : rk_R q W s) : r = s := by
  have a := (h1 (r + 1)).mpr (by omega)
  have b := (h2 (s + 1)).mpr (by omega)
  have a' := (h2 (r + 1)).mp a
  have b' := (h1 (s + 1)).mp b
  omega
theorem rk_Z0 {q : Int} (hq : rk_P q) (W : Nat → Nat → Int) : ¬ rk_Z q 0 W := fun h => hq.2 (h (fun x => x) (fun x => x))
theorem rk_R_same {q : Int} {W V : Nat → Nat → Int} {r : Nat} (e : ∀ n, rk_Z q n W ↔ rk_Z q n V) (h : rk_R q V r) : rk_R q W r := fun n => (e n).trans (h n)
theorem rk_R_zero {q : Int} (hq : rk_P q) {W : Nat → Nat → Int} (h : ∀ i j, q ∣ W i j) : rk_R q W 0 := by
  intro n
  cases n with
  | zero => exact ⟨fun z => absurd z (rk_Z0 hq W), fun z => absurd z (by omega)⟩
  | succ n =>
    refine ⟨fun _ => by omega, fun _ ρ γ => ?_⟩
    rw [dt_det_s]
    exact dt_sum_dvd (fun i _ => rk_dm _ (by rw [Int.mul_comm]; exact rk_dm _ (h _ _)))
theorem rk_R_S {q : Int} (hq : rk_P q) {W : Nat → Nat → Int} {p c s : Nat} (ha : ¬ q ∣ W p c) (h : rk_R q (rk_S W p c) s) : rk_R q W (s + 1) := by
  intro n
  cases n with
  | zero => exact ⟨fun z => absurd z (rk_Z0 hq W), fun z => absurd z (by omega)⟩
  | succ n => rw [rk_piv hq ha n, h n]; omega
/-- V is the matrix of the two-row minors at p, c but for a factor e -/
theorem rk_R_V {q : Int} (hq : rk_P q) {W V : Nat → Nat → Int} {p c s : Nat} {e : Int} (ha : ¬ q ∣ W p c) (he : ¬ q ∣ e) (hV : ∀ i j, e * V i j = W p c * W i j - W i c * W p j) (h : rk_R q V s) : rk_R q W (s + 1) := by
  refine rk_R_S hq ha (rk_R_same (V := V) (fun n => ?_) h)
  have eq : ∀ ρ γ : Nat → Nat, dt_det n (fun i j => rk_S W p c (ρ i) (γ j)) = e ^ n * dt_det n (fun i j => V (ρ i) (γ j)) := by
    intro ρ γ
    rw [← dt_scale e n (fun i j => V (ρ i) (γ j))]
    exact dt_det_ext (fun i j => (hV (ρ i) (γ j)).symm)
  constructor
  · intro z ρ γ
    have := z ρ γ
    rw [eq] at this
    exact rk_pw hq he n this
  · intro z ρ γ
    rw [eq]
    exact rk_dm _ (z ρ γ)
/-- the same, where V is right but for multiples of q -/
theorem rk_R_m {q : Int} (hq : rk_P q) {W V : Nat → Nat → Int} {p c s : Nat} (ha : ¬ q ∣ W p c) (hV : ∀ i j, q ∣ V i j - (W p c * W i j - W i c * W p j)) (h : rk_R q V s) : rk_R q W (s + 1) := by
  refine rk_R_S hq ha (rk_R_same (V := V) (fun n => ?_) h)
  constructor
  · exact fun z => rk_Z_mod hV z
  · refine fun z => rk_Z_mod (fun i j => ?_) z
    have := hV i j
    have e : rk_S W p c i j - V i j = - (V i j - (W p c * W i j - W i c * W p j)) := by unfold rk_S; omega
    rw [e]
    exact (Int.dvd_neg).mpr this
theorem rk_R_re {q : Int} {W V : Nat → Nat → Int} {r : Nat} (ρ γ ρ' γ' : Nat → Nat) (e : ∀ i j, V i j = W (ρ i) (γ j)) (e' : ∀ i j, W i j = V (ρ' i) (γ' j)) (h : rk_R q V r) : rk_R q W r :=
  rk_R_same (fun _ => ⟨rk_Z_re ρ γ e, rk_Z_re ρ' γ' e'⟩) h
/-! bounds of all minors -/
def rk_M (b : Int) (W : Nat → Nat → Int) : Prop := ∀ (n : Nat) (ρ γ : Nat → Nat), - b ≤ dt_det n (fun i j => W (ρ i) (γ j)) ∧ dt_det n (fun i j => W (ρ i) (γ j)) ≤ b
theorem rk_pne {a : Int} (h : a ≠ 0) : ∀ n : Nat, a ^ n ≠ 0 := by
  intro n
  induction n with
  | zero => rw [Int.pow_zero]; decide
  | succ n ih => rw [Int.pow_succ]; exact Int.mul_ne_zero ih h
theorem rk_D {W V : Nat → Nat → Int} {p c : Nat} (ha : W p c ≠ 0) (hV : ∀ i j, W p c * V i j = W p c * W i j - W i c * W p j) (n : Nat) (ρ γ : Nat → Nat) : dt_det (n + 1) (fun i j => W (rk_co p ρ i) (rk_co c γ j)) = W p c * dt_det n (fun i j => V (ρ i) (γ j)) := by
  have e := rk_chio W p c n ρ γ
  rw [dt_det_ext (B := fun i j => rk_S W p c (ρ i) (γ j)) (C := fun i j => W p c * V (ρ i) (γ j)) (fun i j => (hV (ρ i) (γ j)).symm), dt_scale (W p c) n (fun i j => V (ρ i) (γ j)), Int.mul_left_comm] at e
  exact (Int.eq_of_mul_eq_mul_left (rk_pne ha n) e).symm
theorem rk_1 (B : Nat → Nat → Int) : dt_det 1 B = B 0 0 := by
  show (0 : Int) + 1 * (B 0 0 * 1) = B 0 0
  omega
theorem rk_M_e {b : Int} {W : Nat → Nat → Int} (h : rk_M b W) (i j : Nat) : - b ≤ W i j ∧ W i j ≤ b := by
  have := h 1 (fun _ => i) (fun _ => j)
  rw [rk_1] at this
  exact this
theorem rk_M_tr {b : Int} {W : Nat → Nat → Int} (h : rk_M b W) : rk_M b (fun i j => W j i) := by
  intro n ρ γ
  have := h n γ ρ
  rw [← dt_tr] at this
  exact this
theorem rk_M_unit {b : Int} {W V : Nat → Nat → Int} {p c : Nat} (hu : W p c = 1 ∨ W p c = -1) (hV : ∀ i j, W p c * V i j = W p c * W i j - W i c * W p j) (h : rk_M b W) : rk_M b V := by
  intro n ρ γ
  have e := rk_D (by omega) hV n ρ γ
  have := h (n + 1) (rk_co p ρ) (rk_co c γ)
  rw [e] at this
  rcases hu with u | u <;> rw [u] at this <;> omega
theorem rk_zr (W : Nat → Nat → Int) (p : Nat) {n : Nat} {ρ γ : Nat → Nat} (h : ∀ i, i < n → ρ i ≠ p) : dt_det n (fun i j => W (ρ i) (γ j)) = dt_det n (fun i j => (fun x y => if x = p then 0 else W x y) (ρ i) (γ j)) :=
  dt_det_congr (fun i j hi _ => by show _ = if ρ i = p then 0 else W (ρ i) (γ j); rw [if_neg (h i hi)])
theorem rk_abs {b x : Int} {k : Nat} (h : - b ≤ dt_sg k * x ∧ dt_sg k * x ≤ b) : - b ≤ x ∧ x ≤ b := by
  rcases dt_sg_or k with e | e <;> rw [e] at h <;> omega
/-- a row p and a column c: without p, without c, or with both -/
theorem rk_M_back {b b' : Int} {W V : Nat → Nat → Int} {p c : Nat} (hu : W p c = 1 ∧ b' ≤ b ∨ W p c = -1 ∧ b' ≤ b ∨ W p c = 2 ∧ 2 * b' ≤ b ∨ W p c = -2 ∧ 2 * b' ≤ b) (hV : ∀ i j, W p c * V i j = W p c * W i j - W i c * W p j) (h1 : rk_M b (fun i j => if i = p then 0 else W i j)) (h2 : rk_M b (fun i j => if j = c then 0 else W i j)) (h3 : rk_M b' V) : rk_M b W := by
  intro n ρ γ
  by_cases hr : ∀ i, i < n → ρ i ≠ p
  · rw [dt_det_congr (C := fun i j => (fun x y => if x = p then 0 else W x y) (ρ i) (γ j)) (fun i j hi _ => by show _ = if ρ i = p then 0 else W (ρ i) (γ j); rw [if_neg (hr i hi)])]
    exact h1 n ρ γ
  by_cases hc : ∀ j, j < n → γ j ≠ c
  · rw [dt_det_congr (C := fun i j => (fun x y => if y = c then 0 else W x y) (ρ i) (γ j)) (fun i j _ hj => by show _ = if γ j = c then 0 else W (ρ i) (γ j); rw [if_neg (hc j hj)])]
    exact h2 n ρ γ
  obtain ⟨i0, hi⟩ := Classical.not_forall.mp hr
  obtain ⟨j0, hj⟩ := Classical.not_forall.mp hc
  have hi1 : i0 < n := Classical.byContradiction fun z => hi fun y => absurd y z
  have hj1 : j0 < n := Classical.byContradiction fun z => hj fun y => absurd y z
  have hip : ρ i0 = p := Classical.byContradiction fun z => hi fun _ => z
  have hjc : γ j0 = c := Classical.byContradiction fun z => hj fun _ => z
  refine rk_abs (k := i0) (rk_abs (k := j0) ?_)
  rw [← dt_front i0 (fun i j => W (ρ i) (γ j)) hi1, ← dt_frontc (fun a j => W (ρ (dt_fr i0 a)) (γ j)) hj1]
  obtain ⟨m, rfl⟩ : ∃ m, n = m + 1 := ⟨n - 1, by omega⟩
  have e : dt_det (m + 1) (fun a b => W (ρ (dt_fr i0 a)) (γ (dt_fr j0 b))) = dt_det (m + 1) (fun i j => W (rk_co p (fun a => ρ (dt_sk i0 a)) i) (rk_co c (fun a => γ (dt_sk j0 a)) j)) := by
    refine dt_det_ext (fun a b => ?_)
    have ea : ρ (dt_fr i0 a) = rk_co p (fun a => ρ (dt_sk i0 a)) a := by cases a with
      | zero => exact hip
      | succ a => rfl
    have eb : γ (dt_fr j0 b) = rk_co c (fun a => γ (dt_sk j0 a)) b := by cases b with
      | zero => exact hjc
      | succ a => rfl
    rw [ea, eb]
  rw [e, rk_D (by omega) hV]
  have := h3 m (fun a => ρ (dt_sk i0 a)) (fun a => γ (dt_sk j0 a))
  rcases hu with ⟨u, w⟩ | ⟨u, w⟩ | ⟨u, w⟩ | ⟨u, w⟩ <;> rw [u] <;> omega
/-- rows taken anew, each with a factor 1, -1 or 0 -/
theorem rk_M_rows {b : Int} {W V : Nat → Nat → Int} (e : Nat → Int) (ρ0 : Nat → Nat) (he : ∀ i, e i = 1 ∨ e i = -1 ∨ e i = 0) (hV : ∀ i j, V i j = e i * W (ρ0 i) j) (h : rk_M b W) : rk_M b V := by
  intro n ρ γ
  have b1 := h 0 (fun x => x) (fun x => x)
  have hb : (1 : Int) ≤ b := b1.2
  have key : ∀ k, k ≤ n → ∃ s : Int, (s = 1 ∨ s = -1 ∨ s = 0) ∧ dt_det n (fun i j => if i < k then V (ρ i) (γ j) else W (ρ0 (ρ i)) (γ j)) = s * dt_det n (fun i j => W (ρ0 (ρ i)) (γ j)) := by
    intro k
    induction k with
    | zero =>
      intro _
      refine ⟨1, Or.inl rfl, ?_⟩
      rw [Int.one_mul]
      exact dt_det_ext (fun i j => by rw [if_neg (by omega)])
    | succ k ih =>
      intro hk
      obtain ⟨s, hs, es⟩ := ih (by omega)
      refine ⟨e (ρ k) * s, ?_, ?_⟩
      · rcases hs with u | u | u <;> rcases he (ρ k) with w | w | w <;> rw [u, w] <;> decide
      · rw [Int.mul_assoc, ← es]
        have l := dt_lin_mul (n := n) (fun i j => if i < k then V (ρ i) (γ j) else W (ρ0 (ρ i)) (γ j)) (fun j => W (ρ0 (ρ k)) (γ j)) (e (ρ k)) (k := k) (by omega)
        rw [dt_det_ext (B := dt_up (fun i j => if i < k then V (ρ i) (γ j) else W (ρ0 (ρ i)) (γ j)) k (fun j => W (ρ0 (ρ k)) (γ j))) (C := fun i j => if i < k then V (ρ i) (γ j) else W (ρ0 (ρ i)) (γ j)) (fun i j => by
          by_cases hik : i = k
          · subst hik; rw [dt_up_s, if_neg (by omega)]
          · rw [dt_up_n _ _ _ hik])] at l
        rw [← l]
        refine dt_det_ext (fun i j => ?_)
        by_cases hik : i = k
        · subst hik; rw [dt_up_s, if_pos (by omega), hV]
        · rw [dt_up_n _ _ _ hik]
          by_cases h2 : i < k
          · rw [if_pos (by omega), if_pos h2]
          · rw [if_neg (by omega), if_neg h2]
  obtain ⟨s, hs, es⟩ := key n (Nat.le_refl n)
  rw [dt_det_congr (B := fun i j => V (ρ i) (γ j)) (C := fun i j => if i < n then V (ρ i) (γ j) else W (ρ0 (ρ i)) (γ j)) (fun i j hi _ => by rw [if_pos hi]), es]
  have := h n (fun i => ρ0 (ρ i)) γ
  rcases hs with u | u | u <;> rw [u] <;> omega
theorem rk_M_cols {b : Int} {W V : Nat → Nat → Int} (e : Nat → Int) (γ0 : Nat → Nat) (he : ∀ i, e i = 1 ∨ e i = -1 ∨ e i = 0) (hV : ∀ i j, V i j = e j * W i (γ0 j)) (h : rk_M b W) : rk_M b V :=
  rk_M_tr (rk_M_rows (V := fun i j => V j i) e γ0 he (fun i j => hV j i) (rk_M_tr h))
/-- elimination without fractions: every n-minor is d^(n-1) times a small number -/
def rk_Q (d : Int) (W : Nat → Nat → Int) : Prop := ∀ (n : Nat) (ρ γ : Nat → Nat), ∃ m : Int, -2 ≤ m ∧ m ≤ 2 ∧ dt_det (n + 1) (fun i j => W (ρ i) (γ j)) = d ^ n * m
theorem rk_Q_1 {W : Nat → Nat → Int} (h : rk_M 2 W) : rk_Q 1 W := by
  intro n ρ γ
  have := h (n + 1) ρ γ
  exact ⟨_, this.1, this.2, by rw [Int.one_pow, Int.one_mul]⟩
theorem rk_Q_e {d : Int} {W : Nat → Nat → Int} (h : rk_Q d W) (i j : Nat) : -2 ≤ W i j ∧ W i j ≤ 2 := by
  obtain ⟨m, h1, h2, e⟩ := h 0 (fun _ => i) (fun _ => j)
  rw [rk_1, Int.pow_zero, Int.one_mul] at e
  rw [e]
  exact ⟨h1, h2⟩
theorem rk_2 (B : Nat → Nat → Int) : dt_det 2 B = B 0 0 * B 1 1 - B 1 0 * B 0 1 := by
  have := dt_chio 1 B
  rw [rk_1, Int.pow_succ, Int.pow_zero, Int.one_mul] at this
  by_cases h : B 0 0 = 0
  · show (0 : Int) + 1 * (B 0 0 * (0 + 1 * (B 1 1 * 1))) + (-1) * (B 1 0 * (0 + 1 * (B 0 1 * 1))) = _
    rw [h]; grind
  · exact (Int.eq_of_mul_eq_mul_left h this).symm
theorem rk_Q_2 {d : Int} {W : Nat → Nat → Int} (h : rk_Q d W) (p c i j : Nat) : ∃ m : Int, -2 ≤ m ∧ m ≤ 2 ∧ W p c * W i j - W i c * W p j = d * m := by
  obtain ⟨m, h1, h2, e⟩ := h 1 (fun a => if a = 0 then p else i) (fun a => if a = 0 then c else j)
  rw [rk_2, Int.pow_succ, Int.pow_zero, Int.one_mul] at e
  exact ⟨m, h1, h2, e⟩
theorem rk_Q_step {d : Int} {W V : Nat → Nat → Int} {p c : Nat} (hd : d ≠ 0) (ha : W p c ≠ 0) (hV : ∀ i j, d * V i j = W p c * W i j - W i c * W p j) (h : rk_Q d W) : rk_Q (W p c) V := by
  intro n ρ γ
  obtain ⟨m, h1, h2, e⟩ := h (n + 1) (rk_co p ρ) (rk_co c γ)
  refine ⟨m, h1, h2, ?_⟩
  have k := rk_chio W p c (n + 1) ρ γ
  rw [dt_det_ext (B := fun i j => rk_S W p c (ρ i) (γ j)) (C := fun i j => d * V (ρ i) (γ j)) (fun i j => (hV (ρ i) (γ j)).symm), dt_scale d (n + 1) (fun i j => V (ρ i) (γ j)), e] at k
  generalize dt_det (n + 1) (fun i j => V (ρ i) (γ j)) = x at *
  refine Int.eq_of_mul_eq_mul_left (a := W p c * d ^ (n + 1)) (Int.mul_ne_zero ha (rk_pne hd _)) ?_
  rw [Int.mul_assoc, k, Int.pow_succ (W p c)]
  generalize W p c ^ n = y
  generalize d ^ (n + 1) = z
  grind
end
section
/-! a checker for bounds of all minors -/
theorem ce_le {b b' : Int} {W : Nat → Nat → Int} (h : b' ≤ b) (m : rk_M b' W) : rk_M b W := by
  intro n ρ γ
  have := m n ρ γ
  omega
def ce_v : Nat → Int
  | 0 => 0
  | 1 => 1
  | 2 => -1
  | 3 => 2
  | _ => -2
def ce_F (R C M : Nat) : Nat → Nat → Int := fun i j => if i < R ∧ j < C then ce_v ((M >>> (3 * (C * i + j))) % 8) else 0
theorem ce_F_out {R C M i j : Nat} (h : R ≤ i ∨ C ≤ j) : ce_F R C M i j = 0 := by
  unfold ce_F
  rw [if_neg (by omega)]
def ce_all : Nat → (Nat → Bool) → Bool
  | 0, _ => true
  | n + 1, f => f n && ce_all n f
theorem ce_all_ok {f : Nat → Bool} : ∀ {n : Nat}, ce_all n f = true → ∀ i, i < n → f i = true := by
  intro n
  induction n with
  | zero => intro _ i h; omega
  | succ n ih =>
    intro h i hi
    have h2 : (f n && ce_all n f) = true := h
    rw [Bool.and_eq_true] at h2
    by_cases e : i = n
    · rw [e]; exact h2.1
    · exact ih h2.2 i (by omega)
def ce_zr (W : Nat → Nat → Int) (p : Nat) : Nat → Nat → Int := fun i j => if i = p then 0 else W i j
def ce_zc (W : Nat → Nat → Int) (c : Nat) : Nat → Nat → Int := fun i j => if j = c then 0 else W i j
theorem ce_zc_M {b : Int} {W : Nat → Nat → Int} (c : Nat) (h : rk_M b W) : rk_M b (ce_zc W c) := by
  refine rk_M_cols (fun j => if j = c then 0 else 1) (fun j => j) (fun j => ?_) (fun i j => ?_) h
  · show (if j = c then (0 : Int) else 1) = 1 ∨ (if j = c then (0 : Int) else 1) = -1 ∨ (if j = c then (0 : Int) else 1) = 0
    split
    · exact Or.inr (Or.inr rfl)
    · exact Or.inl rfl
  · show (if j = c then 0 else W i j) = (if j = c then (0 : Int) else 1) * W i j
    split
    · exact (Int.zero_mul _).symm
    · exact (Int.one_mul _).symm
theorem ce_unit {b : Int} {W : Nat → Nat → Int} {p x : Nat} (hu : W p x = 1 ∨ W p x = -1) (hz : ∀ j, j ≠ x → W p j = 0) (h : rk_M b (ce_zr W p)) : rk_M b W := by
  have h2 : rk_M b (ce_zc (ce_zr W p) x) := ce_zc_M x h
  have e2 : (fun i j => if j = x then 0 else W i j) = ce_zc (ce_zr W p) x := by
    funext i j
    unfold ce_zc ce_zr
    by_cases hj : j = x
    · rw [if_pos hj, if_pos hj]
    · rw [if_neg hj, if_neg hj]
      by_cases hi : i = p
      · rw [if_pos hi, hi]; exact hz j hj
      · rw [if_neg hi]
  refine rk_M_back (b' := b) (p := p) (c := x) (V := ce_zc (ce_zr W p) x) ?_ ?_ h ?_ h2
  · rcases hu with u | u
    · exact Or.inl ⟨u, Int.le_refl b⟩
    · exact Or.inr (Or.inl ⟨u, Int.le_refl b⟩)
  · intro i j
    unfold ce_zc ce_zr
    by_cases hj : j = x
    · rw [if_pos hj, hj, Int.mul_comm (W i x), Int.sub_self, Int.mul_zero]
    · rw [if_neg hj]
      by_cases hi : i = p
      · rw [if_pos hi, hi, hz j hj, Int.mul_zero, Int.sub_self]
      · rw [if_neg hi, hz j hj, Int.mul_zero, Int.sub_zero]
  · rw [e2]; exact h2
theorem ce_dup {b : Int} {W : Nat → Nat → Int} {p x : Nat} {s : Int} (hs : s = 1 ∨ s = -1) (hpx : p ≠ x) (hz : ∀ j, W p j = s * W x j) (h : rk_M b (ce_zr W p)) : rk_M b W := by
  refine rk_M_rows (fun i => if i = p then s else 1) (fun i => if i = p then x else i) (fun i => ?_) (fun i j => ?_) h
  · show (if i = p then s else 1) = 1 ∨ (if i = p then s else 1) = -1 ∨ (if i = p then s else 1) = 0
    split
    · rcases hs with u | u
      · exact Or.inl u
      · exact Or.inr (Or.inl u)
    · exact Or.inl rfl
  · show W i j = (if i = p then s else 1) * ce_zr W p (if i = p then x else i) j
    unfold ce_zr
    by_cases hi : i = p
    · rw [if_pos hi, if_pos hi, if_neg (fun z => hpx z.symm), hi]; exact hz j
    · rw [if_neg hi, if_neg hi, if_neg hi, Int.one_mul]
def ce_e (x : Nat) : Int := if x < 2 then 0 else if x % 2 = 0 then 1 else -1
theorem ce_e_or (x : Nat) : ce_e x = 1 ∨ ce_e x = -1 ∨ ce_e x = 0 := by
  unfold ce_e
  split
  · exact Or.inr (Or.inr rfl)
  · split
    · exact Or.inl rfl
    · exact Or.inr (Or.inl rfl)
def ce_1 (x : Int) : Bool := decide (x = 1) || decide (x = -1)
theorem ce_1_ok {x : Int} (h : ce_1 x = true) : x = 1 ∨ x = -1 := by
  unfold ce_1 at h
  rw [Bool.or_eq_true, decide_eq_true_iff, decide_eq_true_iff] at h
  exact h
/-- lines are taken away (0: a row with one entry, 1: a column with one entry, 2, 3: a row that is another, 4, 5: a column that is another), then the rest is found in T -/
def ce_ck (R C : Nat) (rows cols : List Nat) (T : Nat → Nat → Int) : List (Nat × Nat × Nat) → (Nat → Nat → Int) → Bool
  | [], W => ce_all R (fun i => ce_all C (fun j => decide (W i j = ce_e (rows.getD i 0) * (ce_e (cols.getD j 0) * T (rows.getD i 0 / 2 - 1) (cols.getD j 0 / 2 - 1)))))
  | (k, l, x) :: r, W =>
    match k with
    | 0 => ce_1 (W l x) && (ce_all C (fun j => decide (j = x) || decide (W l j = 0)) && ce_ck R C rows cols T r (ce_zr W l))
    | 1 => ce_1 (W x l) && (ce_all R (fun i => decide (i = x) || decide (W i l = 0)) && ce_ck R C rows cols T r (ce_zc W l))
    | 2 => !decide (l = x) && (ce_all C (fun j => decide (W l j = W x j)) && ce_ck R C rows cols T r (ce_zr W l))
    | 3 => !decide (l = x) && (ce_all C (fun j => decide (W l j = - W x j)) && ce_ck R C rows cols T r (ce_zr W l))
    | 4 => !decide (l = x) && (ce_all R (fun i => decide (W i l = W i x)) && ce_ck R C rows cols T r (ce_zc W l))
    | _ => !decide (l = x) && (ce_all R (fun i => decide (W i l = - W i x)) && ce_ck R C rows cols T r (ce_zc W l))
theorem ce_zr_out {R C : Nat} {W : Nat → Nat → Int} (h : ∀ i j, R ≤ i ∨ C ≤ j → W i j = 0) (l : Nat) : ∀ i j, R ≤ i ∨ C ≤ j → ce_zr W l i j = 0 := by
  intro i j hij
  unfold ce_zr
  split
  · rfl
  · exact h i j hij
theorem ce_zc_out {R C : Nat} {W : Nat → Nat → Int} (h : ∀ i j, R ≤ i ∨ C ≤ j → W i j = 0) (l : Nat) : ∀ i j, R ≤ i ∨ C ≤ j → ce_zc W l i j = 0 := by
  intro i j hij
  unfold ce_zc
  split
  · rfl
  · exact h i j hij
theorem ce_ck_ok {b : Int} {R C : Nat} {rows cols : List Nat} {T : Nat → Nat → Int} (hT : rk_M b T) : ∀ (rem : List (Nat × Nat × Nat)) (W : Nat → Nat → Int), (∀ i j, R ≤ i ∨ C ≤ j → W i j = 0) → ce_ck R C rows cols T rem W = true → rk_M b W := by
  intro rem
  induction rem with
  | nil =>
    intro W ho h
    have hh : ∀ i, i < R → ∀ j, j < C → W i j = ce_e (rows.getD i 0) * (ce_e (cols.getD j 0) * T (rows.getD i 0 / 2 - 1) (cols.getD j 0 / 2 - 1)) := by
      intro i hi j hj
      have := ce_all_ok (ce_all_ok h i hi) j hj
      exact decide_eq_true_iff.mp this
    have z0 : ∀ (c : Prop) [Decidable c] (x : Int), (x = 1 ∨ x = -1 ∨ x = 0) → ((if c then x else 0) = 1 ∨ (if c then x else 0) = -1 ∨ (if c then x else 0) = 0) := by
      intro c _ x hx
      split
      · exact hx
      · exact Or.inr (Or.inr rfl)
    have h2 : rk_M b (fun i j => (if j < C then ce_e (cols.getD j 0) else 0) * T i (cols.getD j 0 / 2 - 1)) :=
      rk_M_cols (fun j => if j < C then ce_e (cols.getD j 0) else 0) (fun j => cols.getD j 0 / 2 - 1) (fun j => z0 _ _ (ce_e_or _)) (fun i j => rfl) hT
    refine rk_M_rows (fun i => if i < R then ce_e (rows.getD i 0) else 0) (fun i => rows.getD i 0 / 2 - 1) (fun j => z0 _ _ (ce_e_or _)) (fun i j => ?_) h2
    show W i j = (if i < R then ce_e (rows.getD i 0) else 0) * ((if j < C then ce_e (cols.getD j 0) else 0) * T (rows.getD i 0 / 2 - 1) (cols.getD j 0 / 2 - 1))
    by_cases hi : i < R
    · by_cases hj : j < C
      · rw [if_pos hi, if_pos hj]; exact hh i hi j hj
      · rw [if_neg hj, Int.zero_mul, Int.mul_zero]; exact ho i j (by omega)
    · rw [if_neg hi, Int.zero_mul]; exact ho i j (by omega)
  | cons a r ih =>
    obtain ⟨k, l, x⟩ := a
    intro W ho h
    have row : ce_ck R C rows cols T r (ce_zr W l) = true → rk_M b (ce_zr W l) := fun z => ih _ (ce_zr_out ho l) z
    have col : ce_ck R C rows cols T r (ce_zc W l) = true → rk_M b (ce_zr (fun i j => W j i) l) := fun z => rk_M_tr (ih _ (ce_zc_out ho l) z)
    have cW : rk_M b (fun i j => W j i) → rk_M b W := fun z => rk_M_tr z
    have s1 : ∀ y : Int, y = 1 * y := fun y => (Int.one_mul y).symm
    have s2 : ∀ y : Int, - y = -1 * y := fun y => by omega
    match k, h with
    | 0, h =>
      have h : (ce_1 (W l x) && (ce_all C (fun j => decide (j = x) || decide (W l j = 0)) && ce_ck R C rows cols T r (ce_zr W l))) = true := h
      rw [Bool.and_eq_true, Bool.and_eq_true] at h
      refine ce_unit (ce_1_ok h.1) (fun j hj => ?_) (row h.2.2)
      by_cases hc : j < C
      · have := ce_all_ok h.2.1 j hc
        rw [Bool.or_eq_true, decide_eq_true_iff, decide_eq_true_iff] at this
        exact this.resolve_left hj
      · exact ho l j (by omega)
    | 1, h =>
      have h : (ce_1 (W x l) && (ce_all R (fun i => decide (i = x) || decide (W i l = 0)) && ce_ck R C rows cols T r (ce_zc W l))) = true := h
      rw [Bool.and_eq_true, Bool.and_eq_true] at h
      refine cW (ce_unit (W := fun i j => W j i) (p := l) (x := x) (ce_1_ok h.1) (fun j hj => ?_) (col h.2.2))
      by_cases hc : j < R
      · have := ce_all_ok h.2.1 j hc
        rw [Bool.or_eq_true, decide_eq_true_iff, decide_eq_true_iff] at this
        exact this.resolve_left hj
      · exact ho j l (by omega)
    | 2, h =>
      have h : (!decide (l = x) && (ce_all C (fun j => decide (W l j = W x j)) && ce_ck R C rows cols T r (ce_zr W l))) = true := h
      rw [Bool.and_eq_true, Bool.and_eq_true] at h
      refine ce_dup (s := 1) (x := x) (Or.inl rfl) (by simpa using h.1) (fun j => ?_) (row h.2.2)
      rw [← s1]
      by_cases hc : j < C
      · exact decide_eq_true_iff.mp (ce_all_ok h.2.1 j hc)
      · rw [ho l j (by omega), ho x j (by omega)]
    | 3, h =>
      have h : (!decide (l = x) && (ce_all C (fun j => decide (W l j = - W x j)) && ce_ck R C rows cols T r (ce_zr W l))) = true := h
      rw [Bool.and_eq_true, Bool.and_eq_true] at h
      refine ce_dup (s := -1) (x := x) (Or.inr rfl) (by simpa using h.1) (fun j => ?_) (row h.2.2)
      rw [← s2]
      by_cases hc : j < C
      · exact decide_eq_true_iff.mp (ce_all_ok h.2.1 j hc)
      · rw [ho l j (by omega), ho x j (by omega)]; rfl
    | 4, h =>
      have h : (!decide (l = x) && (ce_all R (fun i => decide (W i l = W i x)) && ce_ck R C rows cols T r (ce_zc W l))) = true := h
      rw [Bool.and_eq_true, Bool.and_eq_true] at h
      refine cW (ce_dup (W := fun i j => W j i) (p := l) (s := 1) (x := x) (Or.inl rfl) (by simpa using h.1) (fun j => ?_) (col h.2.2))
      rw [← s1]
      by_cases hc : j < R
      · exact decide_eq_true_iff.mp (ce_all_ok h.2.1 j hc)
      · rw [ho j l (by omega), ho j x (by omega)]
    | k + 5, h =>
      have h : (!decide (l = x) && (ce_all R (fun i => decide (W i l = - W i x)) && ce_ck R C rows cols T r (ce_zc W l))) = true := h
      rw [Bool.and_eq_true, Bool.and_eq_true] at h
      refine cW (ce_dup (W := fun i j => W j i) (p := l) (s := -1) (x := x) (Or.inr rfl) (by simpa using h.1) (fun j => ?_) (col h.2.2))
      rw [← s2]
      by_cases hc : j < R
      · exact decide_eq_true_iff.mp (ce_all_ok h.2.1 j hc)
      · rw [ho j l (by omega), ho j x (by omega)]; rfl
def ce_h (W : Nat → Nat → Int) (c j : Nat) : Int := if W 0 c = 1 ∨ W 0 c = -1 then W 0 c * W 0 j else if W 0 j = W 0 c then 1 else if W 0 j = - W 0 c then -1 else 0
def ce_V (W : Nat → Nat → Int) (c : Nat) : Nat → Nat → Int := fun i j => W i j - W i c * ce_h W c j
/-- a branch: column, bound, lines taken away, places of rows and columns, the matrix where they lie -/
abbrev ce_B : Type := Nat × Int × List (Nat × Nat × Nat) × List Nat × List Nat × (Nat → Nat → Int)
def ce_br (b : Int) (R C : Nat) : List ce_B → (Nat → Nat → Int) → Bool
  | [], W => ce_all C (fun j => decide (W 0 j = 0))
  | (c, b', rem, rows, cols, T) :: r, W => ((ce_1 (W 0 c) && decide (b' ≤ b)) || ((decide (W 0 c = 2) || decide (W 0 c = -2)) && decide (2 * b' ≤ b))) && (ce_all C (fun j => decide (W 0 j = W 0 c * ce_h W c j)) && (ce_ck R C rows cols T rem (ce_V W c) && ce_br b R C r (ce_zc W c)))
def ce_ps : List ce_B → Prop
  | [] => True
  | (_, b', _, _, _, T) :: r => rk_M b' T ∧ ce_ps r
theorem ce_h_out {R C : Nat} {W : Nat → Nat → Int} (ho : ∀ i j, R ≤ i ∨ C ≤ j → W i j = 0) {c j : Nat} (hc : W 0 c ≠ 0) (hj : C ≤ j) : ce_h W c j = 0 := by
  have z : W 0 j = 0 := ho 0 j (Or.inr hj)
  unfold ce_h
  rw [z, Int.mul_zero]
  split
  · rfl
  · rw [if_neg (by omega), if_neg (by omega)]
theorem ce_br_ok {b : Int} {R C : Nat} : ∀ (L : List ce_B) (W : Nat → Nat → Int), (∀ i j, R ≤ i ∨ C ≤ j → W i j = 0) → ce_ps L → rk_M b (ce_zr W 0) → ce_br b R C L W = true → rk_M b W := by
  intro L
  induction L with
  | nil =>
    intro W ho _ h0 h
    have e : W = ce_zr W 0 := by
      funext i j
      unfold ce_zr
      split
      · rename_i hi
        rw [hi]
        by_cases hc : j < C
        · exact decide_eq_true_iff.mp (ce_all_ok h j hc)
        · exact ho 0 j (by omega)
      · rfl
    rw [e]; exact h0
  | cons a r ih =>
    obtain ⟨c, b', rem, rows, cols, T⟩ := a
    intro W ho hp h0 h
    have h : (((ce_1 (W 0 c) && decide (b' ≤ b)) || ((decide (W 0 c = 2) || decide (W 0 c = -2)) && decide (2 * b' ≤ b))) && (ce_all C (fun j => decide (W 0 j = W 0 c * ce_h W c j)) && (ce_ck R C rows cols T rem (ce_V W c) && ce_br b R C r (ce_zc W c)))) = true := h
    rw [Bool.and_eq_true, Bool.and_eq_true, Bool.and_eq_true] at h
    obtain ⟨h1, h2, h3, h4⟩ := h
    have hu : W 0 c = 1 ∧ b' ≤ b ∨ W 0 c = -1 ∧ b' ≤ b ∨ W 0 c = 2 ∧ 2 * b' ≤ b ∨ W 0 c = -2 ∧ 2 * b' ≤ b := by
      rw [Bool.or_eq_true, Bool.and_eq_true, Bool.and_eq_true, Bool.or_eq_true] at h1
      simp only [decide_eq_true_iff] at h1
      rcases h1 with ⟨u, v⟩ | ⟨u, v⟩
      · rcases ce_1_ok u with u | u
        · exact Or.inl ⟨u, v⟩
        · exact Or.inr (Or.inl ⟨u, v⟩)
      · rcases u with u | u
        · exact Or.inr (Or.inr (Or.inl ⟨u, v⟩))
        · exact Or.inr (Or.inr (Or.inr ⟨u, v⟩))
    have hn : W 0 c ≠ 0 := by omega
    have hh : ∀ j, W 0 j = W 0 c * ce_h W c j := by
      intro j
      by_cases hc : j < C
      · exact decide_eq_true_iff.mp (ce_all_ok h2 j hc)
      · rw [ce_h_out ho hn (by omega), Int.mul_zero]; exact ho 0 j (by omega)
    have hVo : ∀ i j, R ≤ i ∨ C ≤ j → ce_V W c i j = 0 := by
      intro i j hij
      unfold ce_V
      rw [ho i j hij]
      rcases hij with hi | hj
      · rw [ho i c (Or.inl hi), Int.zero_mul]; rfl
      · rw [ce_h_out ho hn hj, Int.mul_zero]; rfl
    refine rk_M_back (p := 0) (c := c) (V := ce_V W c) hu ?_ h0 ?_ (ce_ck_ok hp.1 rem _ hVo h3)
    · intro i j
      unfold ce_V
      rw [Int.mul_sub, Int.mul_left_comm, ← hh j]
    · refine ih (ce_zc W c) (ce_zc_out ho c) hp.2 ?_ h4
      have e : ce_zr (ce_zc W c) 0 = ce_zc (ce_zr W 0) c := by
        funext i j
        show (if i = 0 then 0 else if j = c then 0 else W i j) = (if j = c then 0 else if i = 0 then 0 else W i j)
        by_cases hi : i = 0
        · rw [if_pos hi]
          by_cases hj : j = c
          · rw [if_pos hj]
          · rw [if_neg hj, if_pos hi]
        · rw [if_neg hi]
          by_cases hj : j = c
          · rw [if_pos hj, if_pos hj]
          · rw [if_neg hj, if_neg hj, if_neg hi]
      rw [e]
      exact ce_zc_M c h0
theorem ce_st {b b1 : Int} {R C M : Nat} {T : Nat → Nat → Int} {rem : List (Nat × Nat × Nat)} {rows cols : List Nat} {L : List ce_B} (h : (decide (b1 ≤ b) && (ce_ck R C rows cols T rem (ce_zr (ce_F R C M) 0) && ce_br b R C L (ce_F R C M))) = true) (hT : rk_M b1 T) (hp : ce_ps L) : rk_M b (ce_F R C M) := by
  rw [Bool.and_eq_true, Bool.and_eq_true] at h
  have ho : ∀ i j, R ≤ i ∨ C ≤ j → ce_F R C M i j = 0 := fun i j z => ce_F_out z
  exact ce_br_ok L _ ho hp (ce_le (decide_eq_true_iff.mp h.1) (ce_ck_ok hT rem _ (ce_zr_out ho 0) h.2.1)) h.2.2
theorem ce_nil : rk_M 1 (fun _ _ => 0) := by
  intro n ρ γ
  cases n with
  | zero => show (-1 : Int) ≤ 1 ∧ (1 : Int) ≤ 1; decide
  | succ n => rw [dt_zrow (k := 0) (by omega) (fun _ _ => rfl)]; decide
theorem ce_pn : ce_ps [] := trivial
theorem ce_pc {c : Nat} {b' : Int} {rem : List (Nat × Nat × Nat)} {rows cols : List Nat} {T : Nat → Nat → Int} {r : List ce_B} (h : rk_M b' T) (hr : ce_ps r) : ce_ps ((c, b', rem, rows, cols, T) :: r) := show rk_M b' T ∧ ce_ps r from And.intro h hr
end
section
/-! the certificate, 1: written by wip/whole/emit.py -/
def ce_m0 : Nat → Nat → Int := ce_F 1 1 0x3
theorem ce_p0 : rk_M 2 ce_m0 := ce_st (b1 := 1) (T := (fun _ _ => 0)) (rem := []) (rows := []) (cols := []) (L := [(0, 1, [], [], [], (fun _ _ => 0))]) (by decide +kernel) ce_nil (ce_pc ce_nil ce_pn)
def ce_m1 : Nat → Nat → Int := ce_F 2 3 0x1b2c9
theorem ce_p1 : rk_M 2 ce_m1 := ce_st (b1 := 2) (T := ce_m0) (rem := [(1, 0, 1), (4, 2, 1)]) (rows := [0, 2]) (cols := [0, 2]) (L := [(0, 1, [(0, 1, 1)], [], [], (fun _ _ => 0)), (1, 2, [], [0, 2], [0, 0, 3], ce_m0), (2, 1, [], [], [], (fun _ _ => 0))]) (by decide +kernel) ce_p0 (ce_pc ce_nil (ce_pc ce_p0 (ce_pc ce_nil ce_pn)))
def ce_m2 : Nat → Nat → Int := ce_F 2 3 0xb281
theorem ce_p2 : rk_M 2 ce_m2 := ce_st (b1 := 2) (T := ce_m0) (rem := [(1, 0, 1), (1, 2, 1)]) (rows := [0, 2]) (cols := [0, 2]) (L := [(0, 2, [(4, 2, 1)], [0, 2], [0, 2], ce_m0), (2, 2, [], [0, 2], [0, 2], ce_m0)]) (by decide +kernel) ce_p0 (ce_pc ce_p0 (ce_pc ce_p0 ce_pn))
def ce_m3 : Nat → Nat → Int := ce_F 3 3 0x2049009
theorem ce_p3 : rk_M 1 ce_m3 := ce_st (b1 := 1) (T := (fun _ _ => 0)) (rem := [(1, 0, 2), (1, 1, 1), (0, 1, 2), (0, 2, 2)]) (rows := []) (cols := []) (L := [(0, 1, [(3, 2, 1), (1, 1, 1), (1, 2, 1)], [], [], (fun _ _ => 0)), (1, 1, [(0, 1, 2), (0, 2, 2)], [], [], (fun _ _ => 0))]) (by decide +kernel) ce_nil (ce_pc ce_nil (ce_pc ce_nil ce_pn))
def ce_m4 : Nat → Nat → Int := ce_F 3 5 0x5964b048249
theorem ce_p4 : rk_M 2 ce_m4 := ce_st (b1 := 2) (T := ce_m1) (rem := [(1, 2, 2), (4, 4, 0)]) (rows := [0, 2, 4]) (cols := [2, 4, 0, 6]) (L := [(2, 2, [(1, 0, 1), (4, 4, 1)], [0, 4, 2], [0, 2, 0, 4], ce_m1), (0, 1, [(1, 1, 2), (4, 4, 3), (0, 1, 3), (0, 2, 3)], [], [], (fun _ _ => 0)), (1, 1, [(0, 2, 4), (1, 3, 1), (1, 4, 1)], [], [], (fun _ _ => 0)), (3, 1, [(0, 1, 4), (0, 2, 4)], [], [], (fun _ _ => 0))]) (by decide +kernel) ce_p1 (ce_pc ce_p1 (ce_pc ce_nil (ce_pc ce_nil (ce_pc ce_nil ce_pn))))
def ce_m5 : Nat → Nat → Int := ce_F 3 5 0x91049049049
theorem ce_p5 : rk_M 2 ce_m5 := ce_st (b1 := 2) (T := ce_m2) (rem := [(1, 1, 1), (1, 2, 2), (4, 4, 3)]) (rows := [0, 2, 4]) (cols := [2, 0, 0, 7]) (L := [(1, 1, [(1, 0, 2), (5, 3, 2), (1, 4, 2), (0, 1, 2), (0, 2, 2)], [], [], (fun _ _ => 0)), (2, 2, [(1, 0, 1)], [0, 2, 5], [0, 0, 0, 2, 4], ce_m1), (0, 2, [(0, 1, 3), (1, 3, 2)], [0, 0, 2], [0, 0, 0, 0, 3], ce_m0), (4, 1, [(0, 1, 3), (0, 2, 3)], [], [], (fun _ _ => 0))]) (by decide +kernel) ce_p2 (ce_pc ce_nil (ce_pc ce_p1 (ce_pc ce_p0 (ce_pc ce_nil ce_pn))))
def ce_m6 : Nat → Nat → Int := ce_F 3 5 0xca209048049
theorem ce_p6 : rk_M 2 ce_m6 := ce_st (b1 := 2) (T := ce_m1) (rem := [(1, 0, 1), (1, 2, 2), (4, 3, 1)]) (rows := [0, 2, 4]) (cols := [0, 2, 0, 0, 4]) (L := [(0, 2, [(1, 1, 2), (5, 3, 2)], [0, 2, 4], [0, 0, 3, 0, 4], ce_m1), (2, 2, [(4, 4, 1)], [0, 2, 4], [0, 4, 0, 2], ce_m1), (1, 2, [], [0, 2, 4], [0, 0, 0, 2, 4], ce_m1)]) (by decide +kernel) ce_p1 (ce_pc ce_p1 (ce_pc ce_p1 (ce_pc ce_p1 ce_pn)))
def ce_m7 : Nat → Nat → Int := ce_F 3 5 0x89209048049
theorem ce_p7 : rk_M 2 ce_m7 := ce_st (b1 := 2) (T := ce_m2) (rem := [(1, 0, 1), (1, 2, 2), (4, 3, 1)]) (rows := [0, 2, 4]) (cols := [0, 2, 0, 0, 7]) (L := [(0, 2, [(1, 1, 2), (5, 4, 2)], [0, 2, 4], [0, 0, 6, 2], ce_m2), (2, 2, [(1, 1, 1)], [0, 2, 4], [0, 0, 0, 2, 7], ce_m2), (1, 2, [], [0, 2, 4], [0, 0, 0, 2, 7], ce_m2)]) (by decide +kernel) ce_p2 (ce_pc ce_p2 (ce_pc ce_p2 (ce_pc ce_p2 ce_pn)))
def ce_m8 : Nat → Nat → Int := ce_F 3 5 0x8824920004a
theorem ce_p8 : rk_M 2 ce_m8 := ce_st (b1 := 2) (T := ce_m2) (rem := [(1, 0, 2), (1, 1, 2), (1, 2, 1)]) (rows := [0, 2, 4]) (cols := [0, 0, 0, 2, 7]) (L := [(0, 2, [(4, 3, 2)], [0, 2, 4], [0, 4, 2, 0, 7], ce_m2), (1, 2, [(4, 4, 2)], [0, 2, 4], [0, 0, 7, 2], ce_m2), (2, 2, [], [0, 2, 4], [0, 0, 0, 2, 7], ce_m2)]) (by decide +kernel) ce_p2 (ce_pc ce_p2 (ce_pc ce_p2 (ce_pc ce_p2 ce_pn)))
def ce_m9 : Nat → Nat → Int := ce_F 3 4 0x44320a049
theorem ce_p9 : rk_M 2 ce_m9 := ce_st (b1 := 2) (T := ce_m1) (rem := [(1, 1, 1), (1, 2, 2)]) (rows := [0, 2, 5]) (cols := [5, 0, 0, 2]) (L := [(1, 2, [(3, 2, 1), (1, 2, 1), (1, 3, 1)], [0, 2], [3], ce_m0), (2, 1, [(3, 2, 1), (1, 0, 1), (1, 3, 1)], [], [], (fun _ _ => 0)), (0, 1, [(0, 1, 3), (0, 2, 3)], [], [], (fun _ _ => 0))]) (by decide +kernel) ce_p1 (ce_pc ce_p0 (ce_pc ce_nil (ce_pc ce_nil ce_pn)))
def ce_m10 : Nat → Nat → Int := ce_F 3 4 0x64b241009
theorem ce_p10 : rk_M 2 ce_m10 := ce_st (b1 := 2) (T := ce_m1) (rem := [(1, 1, 2), (4, 3, 0)]) (rows := [0, 2, 4]) (cols := [4, 0, 2]) (L := [(1, 2, [(4, 2, 0)], [0, 2, 4], [2, 0, 0, 4], ce_m1), (0, 2, [], [0, 2, 4], [0, 0, 2, 4], ce_m1)]) (by decide +kernel) ce_p1 (ce_pc ce_p1 (ce_pc ce_p1 ce_pn))
def ce_m11 : Nat → Nat → Int := ce_F 3 4 0x649241009
theorem ce_p11 : rk_M 2 ce_m11 := ce_st (b1 := 2) (T := ce_m1) (rem := [(1, 1, 2), (4, 2, 0)]) (rows := [0, 2, 4]) (cols := [2, 0, 0, 4]) (L := [(1, 2, [(1, 0, 1)], [0, 2, 4], [0, 0, 2, 4], ce_m1), (0, 2, [], [0, 2, 4], [0, 0, 2, 4], ce_m1)]) (by decide +kernel) ce_p1 (ce_pc ce_p1 (ce_pc ce_p1 ce_pn))
def ce_m12 : Nat → Nat → Int := ce_F 3 4 0x648609081
theorem ce_p12 : rk_M 2 ce_m12 := ce_st (b1 := 2) (T := ce_m0) (rem := [(1, 0, 1), (1, 2, 2), (2, 2, 1), (1, 1, 1)]) (rows := [0, 2]) (cols := [0, 0, 0, 2]) (L := [(0, 2, [(2, 2, 1), (1, 1, 1), (1, 2, 1)], [0, 2], [0, 0, 0, 2], ce_m0), (2, 2, [(2, 2, 1), (1, 1, 1)], [0, 2], [0, 0, 0, 2], ce_m0)]) (by decide +kernel) ce_p0 (ce_pc ce_p0 (ce_pc ce_p0 ce_pn))
def ce_m13 : Nat → Nat → Int := ce_F 4 6 0x88210009209001041
theorem ce_p13 : rk_M 1 ce_m13 := ce_st (b1 := 1) (T := ce_m3) (rem := [(1, 0, 2), (1, 2, 1), (1, 4, 3)]) (rows := [0, 2, 5, 6]) (cols := [0, 7, 0, 2, 0, 4]) (L := [(0, 1, [(5, 4, 1), (4, 5, 2)], [0, 2, 5, 6], [0, 7, 4, 2], ce_m3), (2, 1, [(5, 4, 3)], [0, 2, 5, 6], [0, 7, 0, 2, 0, 4], ce_m3), (4, 1, [], [0, 2, 5, 6], [0, 7, 0, 2, 0, 4], ce_m3)]) (by decide +kernel) ce_p3 (ce_pc ce_p3 (ce_pc ce_p3 (ce_pc ce_p3 ce_pn)))
def ce_m14 : Nat → Nat → Int := ce_F 4 8 0x24904824820904104a008289
theorem ce_p14 : rk_M 2 ce_m14 := ce_st (b1 := 2) (T := ce_m5) (rem := [(1, 3, 2), (4, 4, 2), (4, 6, 1), (4, 7, 5)]) (rows := [0, 2, 7, 4]) (cols := [7, 10, 4, 0, 0, 8]) (L := [(3, 2, [(1, 0, 1), (4, 4, 1), (1, 5, 3), (4, 6, 2)], [0, 2, 4, 6], [0, 6, 2, 0, 0, 0, 0, 10], ce_m4), (0, 2, [(4, 5, 4), (4, 7, 2)], [0, 6, 2, 4], [0, 10, 2, 0, 8, 0, 4], ce_m6), (2, 2, [], [0, 4, 2, 6], [0, 8, 0, 0, 10, 4, 2, 6], ce_m4), (5, 2, [(1, 1, 1)], [0, 2, 4, 6], [0, 0, 0, 0, 6, 0, 2, 10], ce_m4), (1, 2, [], [0, 2, 4, 6], [0, 0, 0, 0, 6, 0, 2, 10], ce_m4)]) (by decide +kernel) ce_p5 (ce_pc ce_p4 (ce_pc ce_p6 (ce_pc ce_p4 (ce_pc ce_p4 (ce_pc ce_p4 ce_pn)))))
def ce_m15 : Nat → Nat → Int := ce_F 4 8 0x89050408051201248040249
theorem ce_p15 : rk_M 2 ce_m15 := ce_st (b1 := 2) (T := ce_m5) (rem := [(1, 0, 2), (1, 3, 1), (1, 6, 3)]) (rows := [0, 6, 3, 5]) (cols := [0, 2, 11, 0, 9, 5, 0, 6]) (L := [(0, 2, [(4, 4, 2), (5, 6, 5), (4, 7, 3)], [0, 2, 7, 4], [0, 2, 4, 6, 0, 8], ce_m9), (3, 1, [(5, 2, 1), (5, 5, 1), (5, 6, 4)], [0, 2, 5, 6], [0, 6, 0, 0, 2, 0, 0, 4], ce_m3), (6, 2, [(4, 7, 1)], [0, 2, 5, 6], [0, 4, 2, 0, 6, 9], ce_m9), (1, 2, [], [0, 3, 4, 6], [0, 0, 8, 0, 6, 4, 0, 3], ce_m12), (2, 1, [], [0, 2, 5, 6], [0, 0, 0, 0, 2, 7, 0, 4], ce_m3)]) (by decide +kernel) ce_p5 (ce_pc ce_p9 (ce_pc ce_p3 (ce_pc ce_p9 (ce_pc ce_p12 (ce_pc ce_p3 ce_pn)))))
def ce_m16 : Nat → Nat → Int := ce_F 4 8 0x290248211048049009000249
theorem ce_p16 : rk_M 2 ce_m16 := ce_st (b1 := 2) (T := ce_m5) (rem := [(1, 0, 1), (1, 3, 3), (4, 7, 2)]) (rows := [0, 6, 2, 4]) (cols := [0, 2, 4, 0, 6, 11, 9]) (L := [(0, 2, [(5, 5, 2), (5, 6, 3), (4, 7, 1)], [0, 2, 6, 5], [0, 9, 11, 5, 6], ce_m5), (3, 2, [(1, 2, 2), (4, 4, 1)], [0, 2, 6, 5], [0, 6, 0, 0, 0, 10, 4, 9], ce_m5), (2, 2, [(1, 1, 1)], [0, 2, 6, 5], [0, 0, 0, 0, 6, 10, 4, 9], ce_m5), (1, 2, [], [0, 2, 6, 5], [0, 0, 0, 0, 6, 10, 4, 9], ce_m5)]) (by decide +kernel) ce_p5 (ce_pc ce_p5 (ce_pc ce_p5 (ce_pc ce_p5 (ce_pc ce_p5 ce_pn))))
def ce_m17 : Nat → Nat → Int := ce_F 4 8 0x29104028004a448201201248
theorem ce_p17 : rk_M 2 ce_m17 := ce_st (b1 := 2) (T := ce_m7) (rem := [(1, 1, 2), (1, 3, 1), (1, 4, 3), (5, 7, 6)]) (rows := [0, 2, 5, 7]) (cols := [2, 0, 9, 0, 0, 6, 4]) (L := [(1, 2, [(1, 2, 3), (4, 3, 0), (5, 7, 5)], [0, 2, 5, 7], [4, 0, 0, 0, 8, 6, 2], ce_m5), (3, 2, [(5, 5, 4), (5, 6, 2)], [0, 6, 3, 5], [6, 0, 3, 0, 11, 0, 0, 5], ce_m4), (4, 2, [(1, 2, 2), (5, 7, 0)], [0, 6, 3, 5], [6, 0, 0, 0, 0, 10, 2], ce_m4), (2, 2, [(1, 7, 1)], [0, 6, 3, 5], [6, 0, 0, 0, 0, 10, 2], ce_m4), (7, 2, [], [0, 6, 3, 5], [6, 0, 0, 0, 0, 10, 2], ce_m4)]) (by decide +kernel) ce_p7 (ce_pc ce_p5 (ce_pc ce_p4 (ce_pc ce_p4 (ce_pc ce_p4 (ce_pc ce_p4 ce_pn)))))
def ce_m18 : Nat → Nat → Int := ce_F 4 8 0x281401290041049008000249
theorem ce_p18 : rk_M 2 ce_m18 := ce_st (b1 := 2) (T := ce_m5) (rem := [(1, 1, 1), (1, 2, 2), (1, 3, 3), (4, 7, 0)]) (rows := [0, 2, 5, 6]) (cols := [9, 0, 0, 0, 6, 4, 10]) (L := [(1, 2, [(5, 4, 3), (5, 5, 2), (5, 6, 0)], [0, 2, 5, 6], [11, 0, 5, 7, 0, 0, 0, 9], ce_m5), (2, 2, [(1, 0, 3), (5, 7, 3)], [0, 2, 5, 6], [0, 0, 0, 8, 6, 4, 10], ce_m5), (3, 2, [], [0, 3, 4, 6], [10, 0, 0, 0, 7, 3, 5, 8], ce_m6), (0, 2, [], [0, 2, 5, 6], [0, 0, 0, 0, 6, 4, 10, 9], ce_m5)]) (by decide +kernel) ce_p5 (ce_pc ce_p5 (ce_pc ce_p5 (ce_pc ce_p6 (ce_pc ce_p5 ce_pn))))
def ce_m19 : Nat → Nat → Int := ce_F 4 8 0x482208290009049040000249
theorem ce_p19 : rk_M 2 ce_m19 := ce_st (b1 := 2) (T := ce_m7) (rem := [(1, 0, 2), (1, 2, 1), (1, 3, 3)]) (rows := [0, 3, 4, 6]) (cols := [0, 8, 0, 0, 7, 3, 5, 10]) (L := [(0, 2, [(1, 1, 3), (4, 5, 2), (5, 7, 3)], [0, 2, 5, 7], [0, 0, 4, 8, 6, 0, 2], ce_m5), (2, 2, [(5, 4, 3), (5, 6, 1)], [0, 2, 5, 7], [0, 3, 0, 7, 0, 4, 0, 9], ce_m5), (3, 2, [(1, 1, 2)], [0, 2, 5, 7], [0, 0, 0, 0, 6, 4, 2, 9], ce_m5), (1, 2, [], [0, 2, 5, 7], [0, 0, 0, 0, 6, 4, 2, 9], ce_m5)]) (by decide +kernel) ce_p7 (ce_pc ce_p5 (ce_pc ce_p5 (ce_pc ce_p5 (ce_pc ce_p5 ce_pn))))
def ce_m20 : Nat → Nat → Int := ce_F 4 7 0x451202209208241200249
theorem ce_p20 : rk_M 2 ce_m20 := ce_st (b1 := 2) (T := ce_m5) (rem := [(1, 0, 1), (4, 5, 2)]) (rows := [0, 6, 2, 4]) (cols := [0, 6, 4, 2, 9, 0, 11]) (L := [(0, 2, [(1, 1, 2), (4, 5, 3), (5, 6, 2)], [0, 3, 4, 6], [0, 0, 2, 10, 7], ce_m4), (1, 2, [(1, 3, 3), (5, 4, 2)], [0, 3, 4, 6], [0, 0, 6, 0, 0, 10, 3], ce_m4), (2, 2, [(1, 3, 1)], [0, 3, 4, 6], [0, 0, 0, 0, 7, 10, 3], ce_m4), (3, 2, [], [0, 3, 4, 6], [0, 0, 0, 0, 7, 10, 3], ce_m4)]) (by decide +kernel) ce_p5 (ce_pc ce_p4 (ce_pc ce_p4 (ce_pc ce_p4 (ce_pc ce_p4 ce_pn))))
def ce_m21 : Nat → Nat → Int := ce_F 4 7 0x248241208251010202281
theorem ce_p21 : rk_M 2 ce_m21 := ce_st (b1 := 2) (T := ce_m5) (rem := [(1, 3, 2), (1, 4, 3)]) (rows := [0, 6, 2, 4]) (cols := [6, 4, 8, 0, 0, 2, 10]) (L := [(3, 2, [(2, 3, 2), (1, 0, 1), (1, 1, 2), (1, 4, 2), (4, 6, 2)], [0, 2, 4], [0, 0, 6, 0, 0, 2], ce_m2), (4, 2, [(2, 3, 2), (1, 1, 2), (1, 2, 1), (4, 5, 0)], [0, 2, 4], [2, 0, 0, 0, 0, 0, 6], ce_m2), (0, 2, [(2, 3, 2), (1, 1, 2), (1, 2, 2)], [0, 2, 4], [0, 0, 0, 0, 0, 2, 6], ce_m2), (2, 2, [(2, 3, 2), (1, 1, 2)], [0, 2, 4], [0, 0, 0, 0, 0, 2, 6], ce_m2)]) (by decide +kernel) ce_p5 (ce_pc ce_p2 (ce_pc ce_p2 (ce_pc ce_p2 (ce_pc ce_p2 ce_pn))))
def ce_m22 : Nat → Nat → Int := ce_F 4 7 0x288249048241240200049
theorem ce_p22 : rk_M 2 ce_m22 := ce_st (b1 := 2) (T := ce_m5) (rem := [(1, 2, 3), (4, 4, 0), (4, 6, 1)]) (rows := [0, 2, 4, 7]) (cols := [10, 8, 0, 4, 0, 6]) (L := [(2, 2, [(1, 1, 2), (4, 3, 0)], [0, 2, 4, 7], [4, 0, 0, 0, 10, 6, 8], ce_m5), (1, 2, [(1, 0, 1)], [0, 2, 4, 7], [0, 0, 0, 4, 10, 6, 8], ce_m5), (0, 2, [], [0, 2, 4, 7], [0, 0, 0, 4, 10, 6, 8], ce_m5)]) (by decide +kernel) ce_p5 (ce_pc ce_p5 (ce_pc ce_p5 (ce_pc ce_p5 ce_pn)))
def ce_m23 : Nat → Nat → Int := ce_F 4 7 0x250649091201240200049
theorem ce_p23 : rk_M 2 ce_m23 := ce_st (b1 := 2) (T := ce_m6) (rem := [(4, 5, 0), (4, 6, 1)]) (rows := [0, 3, 4, 6]) (cols := [7, 8, 10, 3, 5]) (L := [(0, 2, [(5, 3, 1), (5, 4, 2)], [0, 2, 5, 6], [0, 5, 11, 0, 0, 6, 9], ce_m5), (1, 2, [(1, 2, 3)], [0, 2, 5, 6], [0, 0, 0, 4, 10, 6, 9], ce_m5), (2, 2, [], [0, 2, 5, 6], [0, 0, 0, 4, 10, 6, 9], ce_m5)]) (by decide +kernel) ce_p6 (ce_pc ce_p5 (ce_pc ce_p5 (ce_pc ce_p5 ce_pn)))
def ce_m24 : Nat → Nat → Int := ce_F 4 7 0x24920124108104900104a
theorem ce_p24 : rk_M 2 ce_m24 := ce_st (b1 := 2) (T := ce_m4) (rem := [(1, 0, 2), (1, 1, 1), (4, 5, 2), (4, 6, 4)]) (rows := [0, 2, 4, 6]) (cols := [0, 0, 2, 6, 10]) (L := [(0, 2, [(4, 3, 2), (1, 4, 3)], [0, 2, 7, 4], [0, 6, 4, 0, 0, 10, 8], ce_m5), (1, 2, [(4, 6, 2)], [0, 6, 4, 2], [0, 0, 4, 6, 10, 2], ce_m5), (4, 2, [(1, 2, 1)], [0, 2, 4, 6], [0, 0, 0, 6, 0, 2, 10], ce_m4), (2, 2, [], [0, 2, 4, 6], [0, 0, 0, 6, 0, 2, 10], ce_m4)]) (by decide +kernel) ce_p4 (ce_pc ce_p5 (ce_pc ce_p5 (ce_pc ce_p4 (ce_pc ce_p4 ce_pn))))
def ce_m25 : Nat → Nat → Int := ce_F 4 7 0x28a201011201041201049
theorem ce_p25 : rk_M 2 ce_m25 := ce_st (b1 := 2) (T := ce_m5) (rem := [(1, 0, 1), (1, 4, 3), (4, 6, 2)]) (rows := [0, 2, 6, 5]) (cols := [0, 6, 9, 10, 0, 4]) (L := [(0, 2, [(1, 1, 2), (5, 3, 2), (5, 5, 4)], [0, 3, 4, 6], [0, 0, 2, 0, 6, 0, 10], ce_m4), (4, 2, [(1, 2, 2)], [0, 5, 6, 2], [0, 11, 0, 3, 0, 5, 6], ce_m5), (1, 2, [(5, 5, 2)], [0, 3, 4, 6], [0, 0, 6, 3, 0, 0, 10], ce_m4), (2, 2, [], [0, 3, 4, 6], [0, 0, 0, 3, 0, 7, 10], ce_m4)]) (by decide +kernel) ce_p5 (ce_pc ce_p4 (ce_pc ce_p5 (ce_pc ce_p4 (ce_pc ce_p4 ce_pn))))
def ce_m26 : Nat → Nat → Int := ce_F 4 7 0x25304100920104140104a
theorem ce_p26 : rk_M 2 ce_m26 := ce_st (b1 := 2) (T := ce_m4) (rem := [(1, 0, 1), (1, 2, 2), (1, 4, 3)]) (rows := [0, 2, 4, 6]) (cols := [0, 2, 0, 4, 0, 6, 10]) (L := [(0, 2, [(5, 5, 4), (4, 6, 1)], [0, 2, 5, 6], [0, 9, 5, 2, 7], ce_m9), (2, 2, [(4, 5, 1), (5, 6, 4)], [0, 2, 4, 6], [0, 6, 0, 4, 11], ce_m4), (4, 2, [(4, 3, 1)], [0, 2, 4, 6], [0, 4, 0, 0, 0, 6, 10], ce_m4), (1, 2, [], [0, 2, 4, 6], [0, 0, 0, 4, 0, 6, 10], ce_m4)]) (by decide +kernel) ce_p4 (ce_pc ce_p9 (ce_pc ce_p4 (ce_pc ce_p4 (ce_pc ce_p4 ce_pn))))
def ce_m27 : Nat → Nat → Int := ce_F 4 7 0x290241209041240200049
theorem ce_p27 : rk_M 2 ce_m27 := ce_st (b1 := 2) (T := ce_m5) (rem := [(1, 1, 3), (4, 3, 0), (4, 6, 2)]) (rows := [0, 2, 4, 7]) (cols := [4, 0, 8, 0, 6, 2]) (L := [(1, 2, [(1, 2, 2), (4, 5, 0)], [0, 2, 4, 7], [2, 0, 0, 4, 6, 0, 8], ce_m5), (0, 2, [(5, 4, 2)], [0, 2, 4, 7], [0, 0, 7, 4, 0, 2, 8], ce_m5), (2, 2, [], [0, 2, 4, 7], [0, 0, 0, 4, 6, 2, 8], ce_m5)]) (by decide +kernel) ce_p5 (ce_pc ce_p5 (ce_pc ce_p5 (ce_pc ce_p5 ce_pn)))
def ce_m28 : Nat → Nat → Int := ce_F 4 7 0x2502c9090201240200049
theorem ce_p28 : rk_M 2 ce_m28 := ce_st (b1 := 2) (T := ce_m6) (rem := [(1, 2, 3), (4, 5, 0)]) (rows := [0, 3, 4, 6]) (cols := [7, 10, 0, 3, 5, 0, 8]) (L := [(2, 2, [(1, 0, 1), (4, 6, 1)], [0, 2, 5, 6], [0, 9, 0, 4, 10, 6], ce_m5), (0, 2, [(5, 4, 1)], [0, 2, 5, 6], [0, 11, 0, 4, 0, 6, 9], ce_m5), (1, 2, [], [0, 2, 5, 6], [0, 0, 0, 4, 10, 6, 9], ce_m5)]) (by decide +kernel) ce_p6 (ce_pc ce_p5 (ce_pc ce_p5 (ce_pc ce_p5 ce_pn)))
def ce_m29 : Nat → Nat → Int := ce_F 4 7 0x249041041201041202281
theorem ce_p29 : rk_M 2 ce_m29 := ce_st (b1 := 2) (T := ce_m4) (rem := [(1, 0, 1), (1, 2, 2), (4, 5, 3), (4, 6, 4)]) (rows := [0, 2, 4, 6]) (cols := [0, 2, 0, 6, 10]) (L := [(0, 2, [(1, 3, 3), (4, 4, 1)], [0, 2, 4, 6], [0, 4, 2, 0, 0, 6, 8], ce_m7), (2, 2, [(4, 3, 1), (1, 4, 3)], [0, 2, 4, 6], [0, 2, 0, 0, 0, 6, 10], ce_m4), (3, 2, [], [0, 2, 4, 6], [0, 2, 0, 0, 4, 6, 10], ce_m4), (4, 2, [], [0, 2, 4, 6], [0, 2, 0, 0, 0, 6, 10], ce_m4)]) (by decide +kernel) ce_p4 (ce_pc ce_p7 (ce_pc ce_p4 (ce_pc ce_p4 (ce_pc ce_p4 ce_pn))))
def ce_m30 : Nat → Nat → Int := ce_F 4 7 0x248249091001241000049
theorem ce_p30 : rk_M 2 ce_m30 := ce_st (b1 := 2) (T := ce_m5) (rem := [(1, 0, 3), (4, 5, 1), (4, 6, 2)]) (rows := [0, 2, 5, 6]) (cols := [0, 6, 9, 4, 2]) (L := [(0, 2, [(1, 1, 1), (1, 2, 2)], [0, 2, 5, 6], [0, 0, 0, 4, 2, 6, 9], ce_m5), (1, 2, [(5, 3, 2)], [0, 2, 5, 6], [0, 0, 5, 0, 2, 6, 9], ce_m5), (2, 2, [], [0, 2, 5, 6], [0, 0, 0, 4, 2, 6, 9], ce_m5)]) (by decide +kernel) ce_p5 (ce_pc ce_p5 (ce_pc ce_p5 (ce_pc ce_p5 ce_pn)))
def ce_m31 : Nat → Nat → Int := ce_F 4 7 0x448241208241241000049
theorem ce_p31 : rk_M 2 ce_m31 := ce_st (b1 := 2) (T := ce_m5) (rem := [(1, 0, 2), (1, 2, 3), (4, 5, 1)]) (rows := [0, 2, 4, 6]) (cols := [0, 2, 0, 4, 6, 0, 8]) (L := [(0, 2, [(4, 4, 1), (5, 6, 2)], [0, 2, 4, 6], [0, 6, 9, 4, 0, 2], ce_m5), (2, 2, [(4, 3, 1)], [0, 2, 4, 6], [0, 4, 0, 0, 6, 2, 8], ce_m5), (1, 2, [], [0, 2, 4, 6], [0, 0, 0, 4, 6, 2, 8], ce_m5)]) (by decide +kernel) ce_p5 (ce_pc ce_p5 (ce_pc ce_p5 (ce_pc ce_p5 ce_pn)))
def ce_m32 : Nat → Nat → Int := ce_F 4 7 0x650241291000241200049
theorem ce_p32 : rk_M 2 ce_m32 := ce_st (b1 := 2) (T := ce_m6) (rem := [(1, 0, 1), (4, 5, 2)]) (rows := [0, 3, 4, 6]) (cols := [0, 7, 8, 3, 5, 0, 10]) (L := [(0, 2, [(1, 1, 3), (5, 4, 2)], [0, 3, 4, 6], [0, 0, 4, 3, 0, 8, 10], ce_m6), (1, 2, [(5, 3, 2)], [0, 3, 4, 6], [0, 0, 2, 0, 5, 8, 10], ce_m6), (2, 2, [], [0, 3, 4, 6], [0, 0, 0, 3, 5, 8, 10], ce_m6)]) (by decide +kernel) ce_p6 (ce_pc ce_p6 (ce_pc ce_p6 (ce_pc ce_p6 ce_pn)))
def ce_m33 : Nat → Nat → Int := ce_F 4 7 0x250241209041240200049
theorem ce_p33 : rk_M 2 ce_m33 := ce_st (b1 := 2) (T := ce_m5) (rem := [(1, 1, 3), (4, 3, 0), (4, 6, 2)]) (rows := [0, 2, 4, 7]) (cols := [4, 0, 8, 0, 6, 10]) (L := [(1, 2, [(1, 2, 2)], [0, 2, 4, 7], [2, 0, 0, 4, 6, 10, 8], ce_m5), (0, 2, [(5, 4, 2)], [0, 2, 4, 7], [0, 0, 7, 4, 0, 10, 8], ce_m5), (2, 2, [], [0, 2, 4, 7], [0, 0, 0, 4, 6, 10, 8], ce_m5)]) (by decide +kernel) ce_p5 (ce_pc ce_p5 (ce_pc ce_p5 (ce_pc ce_p5 ce_pn)))
def ce_m34 : Nat → Nat → Int := ce_F 4 7 0x2a2241090201240200049
theorem ce_p34 : rk_M 2 ce_m34 := ce_st (b1 := 2) (T := ce_m4) (rem := [(1, 0, 1), (1, 2, 3), (4, 6, 1)]) (rows := [0, 3, 4, 6]) (cols := [0, 10, 0, 3, 5, 7]) (L := [(0, 2, [(5, 3, 1), (5, 5, 2)], [0, 3, 4, 6], [0, 2, 6, 0, 5, 0, 10], ce_m4), (2, 2, [(1, 1, 2)], [0, 3, 4, 6], [0, 0, 0, 3, 5, 7, 10], ce_m4), (1, 2, [], [0, 3, 4, 6], [0, 0, 0, 3, 5, 7, 10], ce_m4)]) (by decide +kernel) ce_p4 (ce_pc ce_p4 (ce_pc ce_p4 (ce_pc ce_p4 ce_pn)))
def ce_m35 : Nat → Nat → Int := ce_F 4 7 0x288241048201240200049
theorem ce_p35 : rk_M 2 ce_m35 := ce_st (b1 := 2) (T := ce_m5) (rem := [(1, 0, 1), (1, 2, 3), (4, 6, 1)]) (rows := [0, 2, 4, 7]) (cols := [0, 8, 0, 4, 10, 6]) (L := [(0, 2, [(5, 5, 2)], [0, 6, 2, 4], [0, 10, 8, 6, 2, 0, 4], ce_m5), (2, 2, [(1, 1, 2)], [0, 2, 4, 7], [0, 0, 0, 4, 10, 6, 8], ce_m5), (1, 2, [], [0, 2, 4, 7], [0, 0, 0, 4, 10, 6, 8], ce_m5)]) (by decide +kernel) ce_p5 (ce_pc ce_p5 (ce_pc ce_p5 (ce_pc ce_p5 ce_pn)))
def ce_m36 : Nat → Nat → Int := ce_F 4 7 0x24024a089001241000049
theorem ce_p36 : rk_M 2 ce_m36 := ce_st (b1 := 2) (T := ce_m8) (rem := [(1, 0, 3), (4, 5, 1)]) (rows := [0, 2, 6, 4]) (cols := [0, 6, 8, 4, 3, 0, 10]) (L := [(0, 2, [(1, 1, 1), (1, 2, 2)], [0, 4, 7, 2], [0, 0, 0, 10, 8, 2, 6], ce_m7), (1, 2, [(5, 4, 2)], [0, 4, 7, 2], [0, 0, 9, 10, 0, 2, 6], ce_m7), (2, 2, [], [0, 4, 7, 2], [0, 0, 0, 10, 8, 2, 6], ce_m7)]) (by decide +kernel) ce_p8 (ce_pc ce_p7 (ce_pc ce_p7 (ce_pc ce_p7 ce_pn)))
def ce_m37 : Nat → Nat → Int := ce_F 4 7 0x290241048201240200049
theorem ce_p37 : rk_M 2 ce_m37 := ce_st (b1 := 2) (T := ce_m5) (rem := [(1, 0, 1), (1, 2, 3), (4, 6, 1)]) (rows := [0, 2, 4, 7]) (cols := [0, 8, 0, 4, 2, 6]) (L := [(0, 2, [(5, 5, 2)], [0, 2, 6, 5], [0, 11, 5, 6, 2, 0, 9], ce_m5), (2, 2, [(1, 1, 2)], [0, 2, 4, 7], [0, 0, 0, 4, 2, 6, 8], ce_m5), (1, 2, [], [0, 2, 4, 7], [0, 0, 0, 4, 2, 6, 8], ce_m5)]) (by decide +kernel) ce_p5 (ce_pc ce_p5 (ce_pc ce_p5 (ce_pc ce_p5 ce_pn)))
def ce_m38 : Nat → Nat → Int := ce_F 4 6 0x251209049048240049
theorem ce_p38 : rk_M 2 ce_m38 := ce_st (b1 := 2) (T := ce_m5) (rem := [(4, 4, 1), (4, 5, 2)]) (rows := [0, 2, 4, 7]) (cols := [4, 10, 8, 6]) (L := [(0, 2, [(1, 1, 3), (5, 3, 2)], [0, 7, 4, 2], [0, 0, 6, 0, 10, 4], ce_m5), (2, 2, [(1, 1, 1)], [0, 7, 4, 2], [0, 0, 0, 7, 10, 4], ce_m5), (1, 2, [], [0, 7, 4, 2], [0, 0, 0, 7, 10, 4], ce_m5)]) (by decide +kernel) ce_p5 (ce_pc ce_p5 (ce_pc ce_p5 (ce_pc ce_p5 ce_pn)))
def ce_m39 : Nat → Nat → Int := ce_F 4 6 0x25820824804828024a
theorem ce_p39 : rk_M 2 ce_m39 := ce_st (b1 := 2) (T := ce_m4) (rem := [(1, 0, 1), (1, 2, 2)]) (rows := [0, 2, 4, 6]) (cols := [0, 2, 0, 4, 6, 10]) (L := [(0, 2, [(4, 5, 1)], [0, 3, 4, 6], [0, 8, 2, 10, 7], ce_m6), (2, 2, [(0, 2, 5), (4, 4, 1), (1, 5, 3)], [0, 2, 0, 4], [0, 2, 0, 4], ce_m1), (1, 1, [(0, 1, 4), (0, 2, 5), (1, 3, 3), (1, 4, 3), (1, 5, 3)], [], [], (fun _ _ => 0)), (3, 1, [(0, 1, 4), (0, 2, 5), (1, 4, 3), (1, 5, 3)], [], [], (fun _ _ => 0))]) (by decide +kernel) ce_p4 (ce_pc ce_p6 (ce_pc ce_p1 (ce_pc ce_nil (ce_pc ce_nil ce_pn))))
def ce_m40 : Nat → Nat → Int := ce_F 4 6 0x241648448048240049
theorem ce_p40 : rk_M 2 ce_m40 := ce_st (b1 := 2) (T := ce_m9) (rem := [(4, 4, 0), (4, 5, 2)]) (rows := [0, 2, 5, 6]) (cols := [6, 2, 9, 4]) (L := [(0, 1, [(5, 3, 2), (4, 5, 1)], [0, 2, 5, 6], [0, 7, 5, 0, 2], ce_m3), (2, 1, [(4, 4, 1)], [0, 2, 5, 6], [0, 2, 0, 4, 0, 7], ce_m3), (1, 1, [], [0, 2, 5, 6], [0, 0, 0, 4, 2, 7], ce_m3)]) (by decide +kernel) ce_p9 (ce_pc ce_p3 (ce_pc ce_p3 (ce_pc ce_p3 ce_pn)))
def ce_m41 : Nat → Nat → Int := ce_F 4 6 0x2590c8251009041009
theorem ce_p41 : rk_M 2 ce_m41 := ce_st (b1 := 2) (T := ce_m4) (rem := [(1, 1, 2), (4, 3, 0), (1, 4, 3)]) (rows := [0, 4, 2, 6]) (cols := [4, 0, 2, 0, 0, 6]) (L := [(1, 2, [(4, 5, 4)], [0, 2, 4, 6], [8, 0, 2, 4, 10], ce_m4), (4, 2, [(4, 2, 0)], [0, 4, 2, 6], [2, 0, 0, 4, 0, 6], ce_m4), (0, 2, [], [0, 4, 2, 6], [0, 0, 2, 4, 0, 6], ce_m4)]) (by decide +kernel) ce_p4 (ce_pc ce_p4 (ce_pc ce_p4 (ce_pc ce_p4 ce_pn)))
def ce_m42 : Nat → Nat → Int := ce_F 4 6 0x44b00a088049040249
theorem ce_p42 : rk_M 2 ce_m42 := ce_st (b1 := 2) (T := ce_m4) (rem := [(1, 0, 1), (1, 1, 2)]) (rows := [0, 2, 5, 6]) (cols := [0, 0, 4, 6, 2, 11]) (L := [(0, 2, [(1, 3, 3)], [0, 3, 4, 7], [0, 2, 11, 0, 5, 8], ce_m6), (1, 2, [(3, 3, 2), (4, 4, 3), (1, 5, 2)], [0, 2, 5], [0, 0, 4, 2], ce_m1), (3, 1, [(0, 1, 4), (3, 3, 2), (1, 2, 2), (1, 4, 2), (1, 5, 2)], [], [], (fun _ _ => 0)), (2, 1, [(0, 1, 4), (3, 3, 2), (1, 4, 2), (1, 5, 2)], [], [], (fun _ _ => 0))]) (by decide +kernel) ce_p4 (ce_pc ce_p6 (ce_pc ce_p1 (ce_pc ce_nil (ce_pc ce_nil ce_pn))))
def ce_m43 : Nat → Nat → Int := ce_F 4 6 0x45a048448048240049
theorem ce_p43 : rk_M 2 ce_m43 := ce_st (b1 := 2) (T := ce_m9) (rem := [(4, 4, 0), (4, 5, 2)]) (rows := [0, 2, 4, 6]) (cols := [6, 4, 8, 2]) (L := [(0, 2, [(5, 3, 2), (4, 5, 1)], [0, 2, 5, 6], [0, 11, 5, 0, 6], ce_m4), (1, 2, [(5, 4, 2)], [0, 2, 5, 6], [0, 0, 7, 4, 0, 11], ce_m4), (2, 2, [], [0, 2, 5, 6], [0, 0, 0, 4, 6, 11], ce_m4)]) (by decide +kernel) ce_p9 (ce_pc ce_p4 (ce_pc ce_p4 (ce_pc ce_p4 ce_pn)))
def ce_m44 : Nat → Nat → Int := ce_F 4 6 0x648209048208242281
theorem ce_p44 : rk_M 2 ce_m44 := ce_st (b1 := 2) (T := ce_m4) (rem := [(1, 0, 1), (1, 2, 2)]) (rows := [0, 2, 4, 6]) (cols := [0, 2, 0, 6, 10, 4]) (L := [(0, 2, [(2, 2, 1), (1, 2, 1), (1, 3, 3), (4, 4, 1)], [0, 2, 0, 4], [0, 2, 0, 0, 0, 4], ce_m1), (2, 2, [(2, 2, 1), (4, 3, 1), (1, 4, 3)], [0, 2, 0, 4], [0, 2, 0, 0, 0, 4], ce_m1), (3, 2, [(2, 2, 1), (4, 5, 4)], [0, 2, 0, 4], [0, 2, 0, 0, 4], ce_m1), (4, 2, [(2, 2, 1)], [0, 2, 0, 4], [0, 2, 0, 0, 0, 4], ce_m1)]) (by decide +kernel) ce_p4 (ce_pc ce_p1 (ce_pc ce_p1 (ce_pc ce_p1 (ce_pc ce_p1 ce_pn))))
def ce_m45 : Nat → Nat → Int := ce_F 4 6 0x2480c8289041040209
theorem ce_p45 : rk_M 2 ce_m45 := ce_st (b1 := 2) (T := ce_m9) (rem := [(1, 1, 2), (4, 5, 3)]) (rows := [0, 2, 5, 6]) (cols := [2, 0, 4, 9, 6]) (L := [(1, 2, [(1, 3, 3)], [0, 4, 3, 6], [10, 0, 2, 0, 8, 7], ce_m6), (3, 1, [(4, 4, 0)], [0, 2, 5, 6], [2, 0, 4, 0, 0, 7], ce_m3), (0, 1, [], [0, 2, 5, 6], [0, 0, 4, 0, 2, 7], ce_m3)]) (by decide +kernel) ce_p9 (ce_pc ce_p6 (ce_pc ce_p3 (ce_pc ce_p3 ce_pn)))
def ce_m46 : Nat → Nat → Int := ce_F 4 6 0x88a209041008240049
theorem ce_p46 : rk_M 2 ce_m46 := ce_st (b1 := 2) (T := ce_m6) (rem := [(4, 3, 1), (4, 4, 2)]) (rows := [0, 2, 4, 7]) (cols := [2, 6, 8, 0, 0, 10]) (L := [(0, 2, [(5, 3, 2), (5, 4, 1), (0, 1, 2), (1, 2, 3)], [0, 0, 2, 5], [0, 3, 0, 0, 0, 4], ce_m1), (1, 2, [], [0, 2, 5, 6], [0, 0, 3, 4, 7, 9], ce_m10), (2, 2, [(0, 1, 3), (1, 3, 3)], [0, 0, 2, 5], [0, 0, 0, 0, 2, 4], ce_m1)]) (by decide +kernel) ce_p6 (ce_pc ce_p1 (ce_pc ce_p10 (ce_pc ce_p1 ce_pn)))
def ce_m47 : Nat → Nat → Int := ce_F 4 6 0x648209048008240049
theorem ce_p47 : rk_M 2 ce_m47 := ce_st (b1 := 2) (T := ce_m11) (rem := [(1, 0, 1), (1, 2, 2)]) (rows := [0, 2, 4, 6]) (cols := [0, 2, 0, 4, 6, 8]) (L := [(0, 2, [(4, 4, 1)], [0, 3, 4, 6], [0, 8, 2, 7, 0, 10], ce_m6), (2, 2, [(4, 3, 1), (0, 1, 1), (1, 1, 3)], [0, 0, 2, 4], [0, 0, 0, 0, 2, 4], ce_m1), (1, 2, [(0, 1, 3), (1, 3, 3)], [0, 0, 2, 4], [0, 0, 0, 0, 2, 4], ce_m1)]) (by decide +kernel) ce_p11 (ce_pc ce_p6 (ce_pc ce_p1 (ce_pc ce_p1 ce_pn)))
def ce_m48 : Nat → Nat → Int := ce_F 4 5 0x25804308124004a
theorem ce_p48 : rk_M 2 ce_m48 := ce_st (b1 := 2) (T := ce_m4) (rem := [(1, 0, 2), (1, 1, 1)]) (rows := [0, 2, 4, 6]) (cols := [0, 0, 8, 6, 10]) (L := [(0, 2, [], [0, 2, 5, 6], [0, 4, 2, 6, 9], ce_m9), (1, 2, [(0, 1, 3), (1, 3, 3), (2, 3, 2), (1, 4, 2)], [0, 0, 2], [0, 0, 2], ce_m0), (2, 1, [(0, 1, 3), (0, 2, 4), (1, 3, 3), (1, 4, 3)], [], [], (fun _ _ => 0))]) (by decide +kernel) ce_p4 (ce_pc ce_p9 (ce_pc ce_p0 (ce_pc ce_nil ce_pn)))
def ce_m49 : Nat → Nat → Int := ce_F 5 10 0x10402200280400041280008001241000000249
theorem ce_p49 : rk_M 1 ce_m49 := ce_st (b1 := 1) (T := ce_m13) (rem := [(1, 0, 3), (1, 1, 2), (1, 2, 1), (1, 3, 4)]) (rows := [0, 2, 5, 7, 8]) (cols := [0, 0, 0, 0, 10, 2, 6, 9, 13, 5]) (L := [(0, 1, [(4, 5, 2), (4, 8, 1), (5, 9, 3)], [0, 2, 5, 7, 8], [0, 13, 2, 4, 10, 0, 6, 9], ce_m13), (1, 1, [(4, 6, 2), (5, 7, 3)], [0, 2, 5, 7, 8], [0, 0, 6, 8, 10, 2, 0, 0, 13, 5], ce_m13), (2, 1, [(5, 4, 3)], [0, 2, 5, 7, 8], [0, 0, 0, 11, 0, 2, 6, 9, 13, 5], ce_m13), (3, 1, [], [0, 2, 5, 7, 8], [0, 0, 0, 0, 10, 2, 6, 9, 13, 5], ce_m13)]) (by decide +kernel) ce_p13 (ce_pc ce_p13 (ce_pc ce_p13 (ce_pc ce_p13 (ce_pc ce_p13 ce_pn))))
def ce_m50 : Nat → Nat → Int := ce_F 5 11 0x89449000201401200208048200201208200049009
theorem ce_p50 : rk_M 2 ce_m50 := ce_st (b1 := 2) (T := ce_m37) (rem := [(1, 0, 1), (1, 1, 2), (4, 8, 5), (5, 10, 6)]) (rows := [0, 2, 6, 4, 8]) (cols := [0, 0, 2, 8, 4, 6, 13, 10, 0, 14]) (L := [(0, 2, [(1, 5, 4), (4, 9, 4)], [0, 2, 5, 6, 9], [0, 5, 6, 13, 11, 0, 3, 15, 8, 0, 16], ce_m18), (1, 2, [(5, 7, 6), (4, 8, 4)], [0, 5, 9, 3, 6], [0, 0, 7, 9, 13, 15, 4, 0, 0, 16, 3], ce_m19), (5, 2, [(1, 4, 2), (5, 6, 2)], [0, 2, 6, 8, 4], [0, 0, 8, 16, 0, 0, 0, 13, 2, 10, 15], ce_m16), (6, 2, [], [0, 2, 6, 8, 4], [0, 0, 8, 16, 6, 0, 0, 13, 2, 10, 15], ce_m16), (4, 2, [], [0, 2, 6, 8, 4], [0, 0, 8, 16, 0, 0, 0, 13, 2, 10, 15], ce_m16)]) (by decide +kernel) ce_p37 (ce_pc ce_p18 (ce_pc ce_p19 (ce_pc ce_p16 (ce_pc ce_p16 (ce_pc ce_p16 ce_pn)))))
def ce_m51 : Nat → Nat → Int := ce_F 5 11 0x49400240202481000209080200201208200000249
theorem ce_p51 : rk_M 2 ce_m51 := ce_st (b1 := 2) (T := ce_m18) (rem := [(1, 0, 1), (1, 1, 2), (4, 8, 2), (4, 10, 3)]) (rows := [0, 5, 2, 7, 9]) (cols := [0, 0, 11, 17, 5, 13, 6, 2, 0, 8]) (L := [(0, 2, [(1, 2, 4), (5, 4, 1)], [0, 3, 4, 6, 8], [0, 4, 0, 2, 0, 7, 12, 14, 9, 10, 16], ce_m18), (1, 2, [(5, 7, 3)], [0, 3, 6, 4, 9], [0, 0, 5, 14, 3, 7, 13, 0, 9, 16, 10], ce_m19), (2, 2, [(5, 5, 3)], [0, 5, 2, 7, 9], [0, 0, 0, 12, 5, 0, 6, 2, 11, 8, 17], ce_m18), (3, 2, [], [0, 5, 2, 7, 9], [0, 0, 0, 0, 5, 13, 6, 2, 11, 8, 17], ce_m18)]) (by decide +kernel) ce_p18 (ce_pc ce_p18 (ce_pc ce_p19 (ce_pc ce_p18 (ce_pc ce_p18 ce_pn))))
def ce_m52 : Nat → Nat → Int := ce_F 5 10 0x11088240250048050208248201048240000249
theorem ce_p52 : rk_M 2 ce_m52 := ce_st (b1 := 2) (T := ce_m15) (rem := [(4, 4, 0), (4, 5, 2)]) (rows := [0, 2, 6, 4, 8]) (cols := [8, 2, 12, 6, 0, 0, 14, 17, 10, 4]) (L := [(0, 2, [(4, 5, 3), (4, 7, 1), (5, 9, 2)], [0, 4, 8, 2, 6], [0, 15, 5, 12, 8, 0, 16, 0, 2], ce_m15), (1, 2, [(5, 6, 2), (4, 8, 3)], [0, 4, 8, 2, 6], [0, 0, 17, 2, 8, 12, 0, 15, 0, 4], ce_m15), (2, 2, [(4, 4, 3)], [0, 4, 8, 2, 6], [0, 0, 0, 8, 0, 12, 16, 15, 2, 4], ce_m15), (3, 2, [], [0, 4, 8, 2, 6], [0, 0, 0, 0, 8, 12, 16, 15, 2, 4], ce_m15)]) (by decide +kernel) ce_p15 (ce_pc ce_p15 (ce_pc ce_p15 (ce_pc ce_p15 (ce_pc ce_p15 ce_pn))))
def ce_m53 : Nat → Nat → Int := ce_F 5 10 0x9082240210250201202240001240248000249
theorem ce_p53 : rk_M 2 ce_m53 := ce_st (b1 := 2) (T := ce_m31) (rem := [(1, 0, 1), (4, 5, 1), (4, 8, 2)]) (rows := [0, 2, 5, 6, 9]) (cols := [0, 2, 11, 13, 4, 0, 6, 9, 0, 14]) (L := [(0, 2, [(1, 1, 3), (5, 4, 3)], [0, 6, 3, 4, 9], [0, 0, 7, 5, 0, 10, 16, 3, 9, 12], ce_m16), (1, 2, [(5, 4, 2), (5, 9, 6)], [0, 4, 7, 8, 3], [0, 0, 5, 9, 0, 10, 3, 13, 7], ce_m39), (2, 2, [(1, 3, 3), (5, 9, 7)], [0, 2, 6, 4, 8], [0, 0, 0, 0, 4, 8, 14, 17, 12], ce_m15), (9, 2, [], [0, 5, 6, 9, 2], [0, 0, 0, 12, 5, 9, 3, 10, 6], ce_m47), (3, 2, [], [0, 2, 6, 4, 8], [0, 0, 0, 0, 4, 8, 14, 17, 12], ce_m15)]) (by decide +kernel) ce_p31 (ce_pc ce_p16 (ce_pc ce_p39 (ce_pc ce_p15 (ce_pc ce_p47 (ce_pc ce_p15 ce_pn)))))
def ce_m54 : Nat → Nat → Int := ce_F 5 10 0xa08a200209201201248009001041200008209
theorem ce_p54 : rk_M 2 ce_m54 := ce_st (b1 := 2) (T := ce_m16) (rem := [(1, 0, 2), (1, 3, 4)]) (rows := [0, 2, 6, 8, 5]) (cols := [0, 6, 8, 0, 2, 13, 4, 16, 10, 15]) (L := [(0, 2, [(4, 2, 1), (5, 8, 3), (4, 9, 5)], [0, 4, 9, 2, 6], [0, 8, 0, 12, 16, 2, 4, 14], ce_m15), (3, 2, [(4, 6, 1), (4, 7, 5)], [0, 4, 9, 2, 6], [0, 4, 8, 0, 16, 14, 0, 0, 13, 2], ce_m15), (1, 2, [(5, 5, 4)], [0, 4, 9, 2, 6], [0, 0, 8, 0, 16, 0, 4, 14, 13, 2], ce_m15), (5, 2, [], [0, 4, 9, 2, 6], [0, 0, 8, 0, 16, 0, 4, 14, 13, 2], ce_m15)]) (by decide +kernel) ce_p16 (ce_pc ce_p15 (ce_pc ce_p15 (ce_pc ce_p15 (ce_pc ce_p15 ce_pn))))
def ce_m55 : Nat → Nat → Int := ce_F 5 10 0xa289000202240201050240008049040009209
theorem ce_p55 : rk_M 2 ce_m55 := ce_st (b1 := 2) (T := ce_m16) (rem := [(1, 0, 1), (1, 1, 3), (4, 3, 2), (5, 6, 5)]) (rows := [0, 2, 4, 6, 8]) (cols := [0, 0, 2, 0, 6, 13, 0, 8, 14, 16]) (L := [(0, 2, [(1, 3, 2), (4, 9, 4)], [0, 5, 3, 6, 8], [0, 10, 3, 0, 16, 4, 7, 15, 9], ce_m16), (1, 2, [(4, 7, 4), (5, 8, 5)], [0, 2, 6, 9, 4], [0, 0, 4, 6, 8, 2, 15, 0, 0, 12], ce_m17), (3, 2, [(5, 6, 4)], [0, 5, 9, 2, 6], [0, 0, 11, 0, 8, 2, 0, 7, 13, 4], ce_m45), (4, 2, [(5, 5, 2)], [0, 5, 3, 6, 8], [0, 0, 3, 0, 0, 0, 7, 15, 9, 16], ce_m16), (5, 2, [], [0, 5, 3, 6, 8], [0, 0, 3, 0, 0, 0, 7, 15, 9, 16], ce_m16)]) (by decide +kernel) ce_p16 (ce_pc ce_p16 (ce_pc ce_p17 (ce_pc ce_p45 (ce_pc ce_p16 (ce_pc ce_p16 ce_pn)))))
def ce_m56 : Nat → Nat → Int := ce_F 5 10 0xa049040208409201212008001241040000249
theorem ce_p56 : rk_M 2 ce_m56 := ce_st (b1 := 2) (T := ce_m16) (rem := [(1, 0, 1), (1, 3, 3), (4, 7, 1)]) (rows := [0, 6, 3, 5, 8]) (cols := [0, 3, 13, 0, 6, 4, 16, 0, 9, 15]) (L := [(0, 2, [(4, 9, 2)], [0, 6, 9, 3, 5], [0, 7, 9, 5, 15, 16, 3, 11, 12], ce_m17), (3, 2, [(1, 1, 2), (4, 6, 2)], [0, 2, 7, 5, 8], [0, 0, 8, 0, 6, 4, 0, 11, 17, 15], ce_m16), (1, 2, [(4, 4, 2)], [0, 2, 7, 5, 8], [0, 0, 6, 0, 0, 4, 8, 11, 17, 15], ce_m16), (2, 2, [], [0, 2, 7, 5, 8], [0, 0, 0, 0, 6, 4, 8, 11, 17, 15], ce_m16)]) (by decide +kernel) ce_p16 (ce_pc ce_p17 (ce_pc ce_p16 (ce_pc ce_p16 (ce_pc ce_p16 ce_pn))))
def ce_m57 : Nat → Nat → Int := ce_F 5 10 0x12280240211400201209001001041240000249
theorem ce_p57 : rk_M 2 ce_m57 := ce_st (b1 := 2) (T := ce_m18) (rem := [(1, 3, 4), (4, 4, 0)]) (rows := [0, 2, 4, 6, 9]) (cols := [4, 6, 8, 0, 0, 12, 2, 14, 10, 16]) (L := [(3, 2, [(1, 2, 1), (4, 6, 1)], [0, 2, 8, 4, 7], [6, 2, 0, 0, 4, 11, 0, 13, 14, 8], ce_m27), (0, 2, [(5, 5, 1), (5, 8, 2)], [0, 2, 4, 8, 7], [0, 15, 11, 0, 2, 0, 6, 12, 0, 16], ce_m16), (1, 2, [(5, 9, 2)], [0, 2, 4, 8, 7], [0, 0, 17, 0, 2, 14, 6, 12, 10], ce_m16), (2, 2, [], [0, 2, 4, 8, 7], [0, 0, 0, 0, 2, 14, 6, 12, 10, 16], ce_m16)]) (by decide +kernel) ce_p18 (ce_pc ce_p27 (ce_pc ce_p16 (ce_pc ce_p16 (ce_pc ce_p16 ce_pn))))
def ce_m58 : Nat → Nat → Int := ce_F 5 10 0x11042048209208051400048001201040001209
theorem ce_p58 : rk_M 2 ce_m58 := ce_st (b1 := 2) (T := ce_m14) (rem := [(1, 3, 3), (1, 4, 4), (4, 5, 0), (4, 8, 1)]) (rows := [0, 5, 6, 9, 2]) (cols := [11, 8, 2, 0, 0, 0, 7, 17, 0, 13]) (L := [(3, 2, [(1, 0, 1), (5, 9, 1)], [0, 2, 4, 8, 6], [0, 12, 2, 0, 15, 4, 6, 11, 8], ce_m27), (4, 2, [(4, 6, 0)], [0, 2, 6, 4, 8], [4, 14, 6, 0, 0, 2, 0, 8, 12, 10], ce_m32), (0, 2, [], [0, 5, 6, 9, 2], [0, 4, 2, 0, 0, 11, 7, 17, 8, 13], ce_m14), (1, 2, [], [0, 5, 6, 9, 2], [0, 0, 2, 0, 0, 11, 7, 17, 8, 13], ce_m14)]) (by decide +kernel) ce_p14 (ce_pc ce_p27 (ce_pc ce_p32 (ce_pc ce_p14 (ce_pc ce_p14 ce_pn))))
def ce_m59 : Nat → Nat → Int := ce_F 5 10 0x9048201209048041400288001201040001209
theorem ce_p59 : rk_M 2 ce_m59 := ce_st (b1 := 2) (T := ce_m16) (rem := [(1, 1, 2), (1, 4, 3), (4, 6, 0)]) (rows := [0, 2, 5, 6, 8]) (cols := [6, 0, 2, 13, 0, 8, 0, 10, 15, 16]) (L := [(1, 2, [(4, 7, 4), (4, 9, 3)], [0, 2, 5, 6, 8], [4, 0, 2, 16, 10, 8, 6, 0, 15], ce_m16), (4, 2, [(4, 5, 0), (4, 8, 3)], [0, 2, 5, 6, 8], [8, 0, 2, 15, 0, 0, 6, 10, 0, 16], ce_m16), (0, 2, [(5, 3, 2)], [0, 2, 5, 6, 8], [0, 0, 2, 0, 0, 8, 6, 10, 15, 16], ce_m16), (3, 2, [], [0, 2, 5, 6, 8], [0, 0, 2, 0, 0, 8, 6, 10, 15, 16], ce_m16)]) (by decide +kernel) ce_p16 (ce_pc ce_p16 (ce_pc ce_p16 (ce_pc ce_p16 (ce_pc ce_p16 ce_pn))))
def ce_m60 : Nat → Nat → Int := ce_F 5 10 0xa440240211201001282008001241040000249
theorem ce_p60 : rk_M 2 ce_m60 := ce_st (b1 := 2) (T := ce_m24) (rem := [(1, 0, 1), (1, 1, 2), (1, 3, 4)]) (rows := [0, 2, 5, 6, 8]) (cols := [0, 0, 10, 0, 4, 3, 6, 13, 9, 14]) (L := [(0, 2, [(5, 4, 1), (4, 9, 2)], [0, 4, 3, 6, 8], [0, 3, 16, 15, 0, 10, 4, 7, 9], ce_m16), (1, 2, [(4, 6, 2), (5, 8, 3)], [0, 5, 2, 7, 9], [0, 0, 5, 9, 3, 11, 0, 6, 0, 17], ce_m16), (3, 2, [(4, 5, 2)], [0, 5, 2, 7, 9], [0, 0, 11, 0, 3, 0, 5, 6, 8, 17], ce_m16), (2, 2, [], [0, 5, 2, 7, 9], [0, 0, 0, 0, 3, 11, 5, 6, 8, 17], ce_m16)]) (by decide +kernel) ce_p24 (ce_pc ce_p16 (ce_pc ce_p16 (ce_pc ce_p16 (ce_pc ce_p16 ce_pn))))
def ce_m61 : Nat → Nat → Int := ce_F 5 10 0x1105044020a280041200049001041200008209
theorem ce_p61 : rk_M 2 ce_m61 := ce_st (b1 := 2) (T := ce_m17) (rem := [(1, 3, 4), (4, 7, 0), (4, 9, 5)]) (rows := [0, 6, 2, 4, 8]) (cols := [8, 4, 6, 0, 3, 12, 15, 0, 10]) (L := [(3, 2, [(4, 2, 1), (1, 5, 3)], [0, 3, 5, 8, 7], [13, 3, 0, 0, 5, 0, 7, 11, 9, 14], ce_m27), (0, 2, [(4, 4, 1), (5, 8, 5)], [0, 7, 4, 2, 9], [0, 5, 14, 0, 0, 13, 7, 8, 0, 10], ce_m17), (1, 2, [], [0, 7, 4, 2, 9], [0, 0, 14, 0, 5, 16, 7, 8, 12, 10], ce_m17), (5, 2, [], [0, 7, 4, 2, 9], [0, 0, 14, 0, 5, 0, 7, 8, 12, 10], ce_m17)]) (by decide +kernel) ce_p17 (ce_pc ce_p27 (ce_pc ce_p17 (ce_pc ce_p17 (ce_pc ce_p17 ce_pn))))
def ce_m62 : Nat → Nat → Int := ce_F 5 10 0x9288048200288201008048008041040040209
theorem ce_p62 : rk_M 2 ce_m62 := ce_st (b1 := 2) (T := ce_m16) (rem := [(1, 0, 1), (1, 3, 3), (4, 5, 1), (1, 6, 4)]) (rows := [0, 2, 6, 5, 8]) (cols := [0, 13, 6, 0, 2, 0, 0, 8, 16, 15]) (L := [(0, 2, [(5, 4, 3), (5, 7, 6)], [0, 5, 6, 2, 8], [0, 4, 13, 2, 0, 6, 14, 0, 16, 8], ce_m16), (3, 2, [(4, 8, 1), (5, 9, 6)], [0, 2, 6, 5, 8], [0, 16, 6, 0, 2, 13, 14, 8], ce_m16), (6, 2, [], [0, 2, 6, 5, 8], [0, 11, 4, 0, 2, 9, 0, 6, 14, 13], ce_m34), (1, 2, [], [0, 2, 6, 5, 8], [0, 0, 6, 0, 2, 13, 0, 8, 16, 15], ce_m16)]) (by decide +kernel) ce_p16 (ce_pc ce_p16 (ce_pc ce_p16 (ce_pc ce_p34 (ce_pc ce_p16 ce_pn))))
def ce_m63 : Nat → Nat → Int := ce_F 5 10 0x9051001210091001201009001048040008049
theorem ce_p63 : rk_M 2 ce_m63 := ce_st (b1 := 2) (T := ce_m16) (rem := [(1, 1, 2), (1, 2, 3), (1, 5, 4)]) (rows := [0, 2, 6, 5, 8]) (cols := [6, 0, 0, 2, 4, 0, 8, 10, 16, 15]) (L := [(1, 2, [(4, 6, 0), (5, 7, 2), (5, 8, 5)], [0, 5, 8, 2, 6], [17, 0, 14, 9, 5, 13, 0, 0, 0, 2], ce_m15), (2, 2, [(4, 4, 0), (5, 9, 5)], [0, 5, 8, 2, 6], [5, 0, 0, 9, 0, 3, 17, 15, 12], ce_m15), (5, 2, [], [0, 4, 6, 3, 8], [8, 0, 0, 3, 4, 0, 12, 6, 14, 11], ce_m26), (0, 2, [], [0, 5, 8, 2, 6], [0, 0, 0, 9, 5, 0, 17, 15, 12, 2], ce_m15)]) (by decide +kernel) ce_p16 (ce_pc ce_p15 (ce_pc ce_p15 (ce_pc ce_p26 (ce_pc ce_p15 ce_pn))))
def ce_m64 : Nat → Nat → Int := ce_F 5 10 0x1124020024024021021024040108808000024a
theorem ce_p64 : rk_M 2 ce_m64 := ce_st (b1 := 2) (T := ce_m16) (rem := [(1, 0, 1), (1, 1, 3), (1, 2, 2)]) (rows := [0, 2, 6, 5, 8]) (cols := [0, 0, 0, 6, 3, 11, 8, 16, 15, 5]) (L := [(0, 2, [(4, 4, 1), (4, 7, 3)], [0, 2, 7, 5, 9], [0, 9, 3, 13, 0, 17, 14, 0, 11, 5], ce_m15), (1, 2, [(5, 5, 2), (5, 9, 3)], [0, 5, 8, 2, 6], [0, 0, 15, 5, 8, 0, 17, 12, 2], ce_m15), (2, 2, [(4, 6, 3)], [0, 5, 8, 2, 6], [0, 0, 0, 17, 8, 14, 0, 12, 2, 4], ce_m15), (3, 2, [], [0, 5, 8, 2, 6], [0, 0, 0, 0, 8, 14, 17, 12, 2, 4], ce_m15)]) (by decide +kernel) ce_p16 (ce_pc ce_p15 (ce_pc ce_p15 (ce_pc ce_p15 (ce_pc ce_p15 ce_pn))))
def ce_m65 : Nat → Nat → Int := ce_F 5 10 0x1101140820a010241200408001209000001049
theorem ce_p65 : rk_M 2 ce_m65 := ce_st (b1 := 2) (T := ce_m31) (rem := [(1, 0, 3), (1, 2, 1), (1, 4, 4)]) (rows := [0, 3, 4, 6, 8]) (cols := [0, 12, 0, 5, 0, 7, 3, 8, 10, 14]) (L := [(0, 2, [(4, 6, 2), (4, 8, 1), (5, 9, 4)], [0, 5, 9, 2, 7], [0, 13, 9, 5, 3, 17, 0, 14], ce_m15), (2, 2, [(5, 3, 1), (5, 5, 4)], [0, 5, 9, 2, 7], [0, 4, 0, 0, 16, 0, 9, 14, 13, 2], ce_m15), (4, 2, [(4, 7, 1)], [0, 5, 9, 2, 7], [0, 14, 0, 5, 0, 17, 9, 0, 13, 2], ce_m15), (1, 2, [], [0, 5, 9, 2, 7], [0, 0, 0, 5, 0, 17, 9, 14, 13, 2], ce_m15)]) (by decide +kernel) ce_p31 (ce_pc ce_p15 (ce_pc ce_p15 (ce_pc ce_p15 (ce_pc ce_p15 ce_pn))))
def ce_m66 : Nat → Nat → Int := ce_F 5 10 0x9049001410051002202208001041040008209
theorem ce_p66 : rk_M 2 ce_m66 := ce_st (b1 := 2) (T := ce_m15) (rem := [(1, 1, 2), (1, 5, 4), (4, 6, 0), (4, 7, 3)]) (rows := [0, 4, 8, 2, 7]) (cols := [16, 0, 8, 15, 4, 0, 0, 0, 13, 3]) (L := [(1, 2, [(1, 3, 3), (4, 8, 5)], [0, 2, 7, 4, 8], [6, 0, 2, 0, 4, 16, 8, 11, 0, 15], ce_m16), (5, 2, [(1, 0, 1)], [0, 2, 5, 6, 8], [0, 0, 2, 13, 4, 0, 6, 9, 10, 15], ce_m31), (0, 2, [(5, 4, 3)], [0, 4, 8, 2, 7], [0, 0, 8, 5, 0, 0, 16, 15, 13, 3], ce_m15), (3, 2, [], [0, 4, 8, 2, 7], [0, 0, 8, 0, 4, 0, 16, 15, 13, 3], ce_m15)]) (by decide +kernel) ce_p15 (ce_pc ce_p16 (ce_pc ce_p31 (ce_pc ce_p15 (ce_pc ce_p15 ce_pn))))
def ce_m67 : Nat → Nat → Int := ce_F 5 10 0x8440240280208041041048008240240000249
theorem ce_p67 : rk_M 2 ce_m67 := ce_st (b1 := 1) (T := ce_m13) (rem := [(4, 4, 1), (4, 5, 0), (4, 6, 2), (4, 9, 3)]) (rows := [0, 2, 4, 6, 8]) (cols := [2, 6, 8, 4, 0, 0, 0, 10, 12]) (L := [(0, 2, [(5, 7, 3), (4, 8, 1)], [0, 2, 6, 4, 8], [0, 17, 5, 15, 2, 8, 12, 0, 0, 10], ce_m15), (1, 2, [(5, 7, 2)], [0, 2, 4, 6, 8], [0, 0, 15, 5, 8, 2, 10, 0, 16, 12], ce_m15), (2, 1, [(5, 8, 3)], [0, 2, 4, 6, 8], [0, 0, 0, 13, 6, 2, 8, 10, 0, 4], ce_m13), (3, 1, [], [0, 2, 4, 6, 8], [0, 0, 0, 0, 6, 2, 8, 10, 12, 4], ce_m13)]) (by decide +kernel) ce_p13 (ce_pc ce_p15 (ce_pc ce_p15 (ce_pc ce_p13 (ce_pc ce_p13 ce_pn))))
def ce_m68 : Nat → Nat → Int := ce_F 5 10 0x11440088200288201008088008041040040209
theorem ce_p68 : rk_M 2 ce_m68 := ce_st (b1 := 2) (T := ce_m35) (rem := [(1, 0, 1), (1, 3, 3), (1, 6, 4)]) (rows := [0, 3, 6, 4, 8]) (cols := [0, 10, 5, 0, 3, 8, 0, 7, 14, 12]) (L := [(0, 2, [(5, 4, 3), (5, 7, 6)], [0, 3, 6, 4, 8], [0, 4, 7, 2, 0, 10, 8, 0, 16, 14], ce_m16), (3, 2, [(4, 8, 1), (5, 9, 6)], [0, 3, 6, 4, 8], [0, 16, 7, 0, 3, 10, 15, 9], ce_m16), (6, 2, [(4, 5, 1)], [0, 3, 6, 4, 8], [0, 10, 7, 0, 3, 0, 0, 9, 16, 14], ce_m16), (1, 2, [], [0, 3, 6, 4, 8], [0, 0, 7, 0, 3, 10, 0, 9, 16, 14], ce_m16)]) (by decide +kernel) ce_p35 (ce_pc ce_p16 (ce_pc ce_p16 (ce_pc ce_p16 (ce_pc ce_p16 ce_pn))))
def ce_m69 : Nat → Nat → Int := ce_F 5 10 0x901104020a008042200081001041200008209
theorem ce_p69 : rk_M 2 ce_m69 := ce_st (b1 := 2) (T := ce_m16) (rem := [(1, 1, 1), (1, 3, 3), (1, 5, 4), (4, 7, 0)]) (rows := [0, 2, 7, 5, 8]) (cols := [11, 0, 6, 0, 8, 0, 2, 0, 16, 15]) (L := [(1, 2, [(5, 5, 4), (5, 6, 3)], [0, 6, 9, 3, 5], [7, 0, 15, 5, 3, 0, 0, 11, 13, 9], ce_m17), (3, 2, [(1, 0, 2), (5, 9, 5)], [0, 2, 7, 5, 8], [0, 0, 6, 0, 8, 14, 2, 11, 16], ce_m16), (5, 2, [], [0, 2, 7, 5, 8], [11, 0, 4, 0, 6, 0, 2, 9, 14, 13], ce_m37), (0, 2, [], [0, 2, 7, 5, 8], [0, 0, 6, 0, 8, 0, 2, 11, 16, 15], ce_m16)]) (by decide +kernel) ce_p16 (ce_pc ce_p17 (ce_pc ce_p16 (ce_pc ce_p37 (ce_pc ce_p16 ce_pn))))
def ce_m70 : Nat → Nat → Int := ce_F 5 10 0x9048008090411010282001001248000000049
theorem ce_p70 : rk_M 2 ce_m70 := ce_st (b1 := 2) (T := ce_m17) (rem := [(1, 0, 2), (1, 1, 4), (1, 2, 3)]) (rows := [0, 6, 3, 4, 8]) (cols := [0, 0, 0, 3, 4, 15, 6, 9, 13, 10]) (L := [(0, 2, [(5, 7, 2), (4, 9, 1)], [0, 6, 3, 4, 8], [0, 10, 8, 3, 4, 15, 6, 0, 13], ce_m17), (1, 2, [(5, 8, 2)], [0, 6, 3, 4, 8], [0, 0, 12, 3, 4, 15, 6, 9, 0, 10], ce_m17), (2, 2, [], [0, 6, 3, 4, 8], [0, 0, 0, 3, 4, 15, 6, 9, 13, 10], ce_m17)]) (by decide +kernel) ce_p17 (ce_pc ce_p17 (ce_pc ce_p17 (ce_pc ce_p17 ce_pn)))
def ce_m71 : Nat → Nat → Int := ce_F 5 10 0x11041040208201041200240001201400002212
theorem ce_p71 : rk_M 2 ce_m71 := ce_st (b1 := 2) (T := ce_m15) (rem := [(1, 0, 3), (1, 1, 1), (1, 3, 2), (1, 4, 4)]) (rows := [0, 4, 9, 2, 7]) (cols := [0, 0, 4, 0, 0, 8, 16, 14, 13, 2]) (L := [(0, 2, [(5, 5, 1), (4, 7, 3), (5, 9, 4)], [0, 4, 9, 2, 7], [0, 9, 4, 14, 3, 0, 16, 0, 13], ce_m15), (1, 2, [(4, 6, 4)], [0, 2, 7, 4, 9], [0, 0, 4, 3, 14, 8, 0, 16, 13, 10], ce_m15), (3, 2, [(4, 8, 4)], [0, 4, 9, 2, 7], [0, 0, 4, 0, 13, 8, 16, 14, 0, 2], ce_m15), (4, 2, [], [0, 4, 9, 2, 7], [0, 0, 4, 0, 0, 8, 16, 14, 13, 2], ce_m15)]) (by decide +kernel) ce_p15 (ce_pc ce_p15 (ce_pc ce_p15 (ce_pc ce_p15 (ce_pc ce_p15 ce_pn))))
def ce_m72 : Nat → Nat → Int := ce_F 5 9 0x1281440241209001209201008248001249
theorem ce_p72 : rk_M 2 ce_m72 := ce_st (b1 := 2) (T := ce_m17) (rem := [(1, 0, 1), (4, 6, 3), (4, 7, 4)]) (rows := [0, 8, 2, 6, 5]) (cols := [0, 6, 16, 8, 15, 4, 0, 0, 3]) (L := [(0, 2, [(4, 5, 1), (4, 8, 4)], [0, 2, 5, 6, 8], [0, 9, 11, 3, 14, 0, 13, 4], ce_m23), (3, 2, [(4, 7, 1)], [0, 4, 3, 6, 8], [0, 6, 8, 0, 2, 5, 11, 0, 12], ce_m41), (1, 1, [(0, 1, 7), (1, 2, 4), (5, 6, 4), (4, 8, 7)], [0, 0, 2, 4, 7], [0, 0, 0, 0, 3, 4, 0, 6], ce_m3), (4, 1, [(0, 1, 7), (1, 2, 2), (4, 8, 7)], [0, 0, 2, 4, 7], [0, 0, 0, 0, 0, 4, 2, 6], ce_m3), (2, 1, [(0, 1, 7), (4, 8, 7)], [0, 0, 2, 4, 7], [0, 0, 0, 0, 0, 4, 2, 6], ce_m3)]) (by decide +kernel) ce_p17 (ce_pc ce_p23 (ce_pc ce_p41 (ce_pc ce_p3 (ce_pc ce_p3 (ce_pc ce_p3 ce_pn)))))
def ce_m73 : Nat → Nat → Int := ce_F 5 9 0x1288208210449008248240248048000249
theorem ce_p73 : rk_M 2 ce_m73 := ce_st (b1 := 2) (T := ce_m14) (rem := [(1, 2, 3)]) (rows := [0, 2, 6, 4, 8]) (cols := [8, 4, 0, 14, 2, 12, 7, 16, 10]) (L := [(2, 2, [(4, 4, 0), (4, 5, 1), (4, 7, 3)], [0, 4, 8, 2, 6], [6, 14, 0, 16, 0, 0, 3, 0, 8], ce_m14), (0, 2, [(5, 6, 3), (4, 8, 1)], [0, 4, 8, 2, 6], [0, 8, 0, 2, 6, 14, 0, 16], ce_m14), (3, 2, [(1, 1, 1)], [0, 4, 8, 2, 6], [0, 0, 0, 0, 6, 14, 3, 16, 8], ce_m14), (1, 2, [], [0, 4, 8, 2, 6], [0, 0, 0, 0, 6, 14, 3, 16, 8], ce_m14)]) (by decide +kernel) ce_p14 (ce_pc ce_p14 (ce_pc ce_p14 (ce_pc ce_p14 (ce_pc ce_p14 ce_pn))))
def ce_m74 : Nat → Nat → Int := ce_F 5 9 0x1450208451008241048240248048000249
theorem ce_p74 : rk_M 2 ce_m74 := ce_st (b1 := 2) (T := ce_m14) (rem := [(1, 2, 3)]) (rows := [0, 2, 6, 5, 8]) (cols := [2, 12, 0, 16, 8, 7, 4, 11, 14]) (L := [(2, 2, [(3, 4, 3), (4, 4, 0), (4, 6, 1), (1, 7, 3), (4, 8, 3)], [0, 2, 4, 6], [4, 10, 0, 8, 0, 6], ce_m5), (3, 2, [(3, 4, 3), (1, 1, 1), (4, 5, 0), (1, 7, 3)], [0, 2, 4, 6], [6, 0, 0, 0, 4, 0, 10, 0, 8], ce_m5), (0, 2, [(3, 4, 3), (1, 1, 3), (1, 7, 3)], [0, 2, 4, 6], [0, 0, 0, 0, 4, 6, 10, 0, 8], ce_m5), (1, 2, [(3, 4, 3), (1, 7, 3)], [0, 2, 4, 6], [0, 0, 0, 0, 4, 6, 10, 0, 8], ce_m5)]) (by decide +kernel) ce_p14 (ce_pc ce_p5 (ce_pc ce_p5 (ce_pc ce_p5 (ce_pc ce_p5 ce_pn))))
def ce_m75 : Nat → Nat → Int := ce_F 5 9 0x1248408208409008240240240248000249
theorem ce_p75 : rk_M 2 ce_m75 := ce_st (b1 := 2) (T := ce_m17) (rem := [(1, 3, 4)]) (rows := [0, 6, 2, 5, 8]) (cols := [4, 16, 3, 0, 8, 6, 15, 10, 13]) (L := [(3, 2, [(4, 5, 0), (4, 6, 2)], [0, 2, 4, 6, 8], [2, 4, 6, 0, 8, 0, 0, 10, 12], ce_m40), (0, 2, [(5, 4, 2), (4, 8, 1)], [0, 6, 2, 5, 8], [0, 15, 3, 0, 0, 6, 13, 8], ce_m16), (2, 2, [(4, 7, 1)], [0, 6, 2, 5, 8], [0, 8, 0, 0, 2, 6, 13, 0, 15], ce_m16), (1, 2, [], [0, 6, 2, 5, 8], [0, 0, 0, 0, 2, 6, 13, 8, 15], ce_m16)]) (by decide +kernel) ce_p17 (ce_pc ce_p40 (ce_pc ce_p16 (ce_pc ce_p16 (ce_pc ce_p16 ce_pn))))
def ce_m76 : Nat → Nat → Int := ce_F 5 9 0x124100824104104104120104105004804a
theorem ce_p76 : rk_M 2 ce_m76 := ce_st (b1 := 2) (T := ce_m14) (rem := [(1, 0, 1), (1, 2, 2), (4, 5, 3), (4, 6, 4)]) (rows := [0, 2, 4, 6, 8]) (cols := [0, 4, 0, 8, 10, 0, 0, 12, 14]) (L := [(0, 2, [(1, 5, 3), (4, 8, 1)], [0, 6, 9, 2, 5], [0, 7, 17, 8, 11, 0, 15, 2], ce_m14), (2, 2, [(1, 6, 4), (4, 7, 1)], [0, 6, 9, 2, 5], [0, 2, 0, 8, 11, 12, 0, 0, 7], ce_m14), (5, 2, [(4, 4, 1)], [0, 6, 9, 2, 5], [0, 11, 0, 8, 0, 0, 5, 2, 7], ce_m14), (6, 2, [(4, 3, 1)], [0, 6, 9, 2, 5], [0, 8, 0, 0, 11, 0, 0, 2, 7], ce_m14), (1, 2, [], [0, 6, 9, 2, 5], [0, 0, 0, 8, 11, 0, 0, 2, 7], ce_m14)]) (by decide +kernel) ce_p14 (ce_pc ce_p14 (ce_pc ce_p14 (ce_pc ce_p14 (ce_pc ce_p14 (ce_pc ce_p14 ce_pn)))))
def ce_m77 : Nat → Nat → Int := ce_F 5 9 0x1248240208409001481201049008000249
theorem ce_p77 : rk_M 2 ce_m77 := ce_st (b1 := 2) (T := ce_m14) (rem := [(1, 0, 1), (4, 6, 2), (4, 7, 3)]) (rows := [0, 4, 2, 6, 8]) (cols := [0, 8, 12, 10, 3, 6, 0, 0, 16]) (L := [(0, 2, [(1, 3, 4), (5, 4, 1)], [0, 9, 6, 2, 4], [0, 6, 8, 0, 0, 14, 4, 10, 2], ce_m20), (1, 2, [(1, 2, 4)], [0, 2, 7, 9, 4], [0, 0, 0, 8, 6, 4, 14, 2, 10], ce_m20), (3, 2, [(5, 4, 2)], [0, 2, 4, 8, 6], [0, 0, 6, 0, 0, 2, 14, 8, 16], ce_m14), (2, 2, [], [0, 2, 4, 8, 6], [0, 0, 0, 0, 7, 2, 14, 8, 16], ce_m14)]) (by decide +kernel) ce_p14 (ce_pc ce_p20 (ce_pc ce_p20 (ce_pc ce_p14 (ce_pc ce_p14 ce_pn))))
def ce_m78 : Nat → Nat → Int := ce_F 5 9 0x1480248281440002441201240088000249
theorem ce_p78 : rk_M 2 ce_m78 := ce_st (b1 := 2) (T := ce_m21) (rem := [(1, 0, 1), (5, 6, 1), (4, 8, 3)]) (rows := [0, 5, 2, 7, 9]) (cols := [0, 7, 11, 5, 8, 3, 0, 14]) (L := [(0, 2, [(5, 6, 2), (5, 7, 3)], [0, 8, 5, 2, 7], [0, 13, 5, 11, 3, 8, 0, 0, 7], ce_m44), (2, 2, [(1, 1, 1), (5, 4, 3)], [0, 4, 9, 6, 2], [0, 0, 0, 16, 0, 14, 6, 3, 8], ce_m14), (3, 2, [(5, 5, 1)], [0, 4, 9, 6, 2], [0, 15, 0, 0, 17, 0, 6, 3, 8], ce_m14), (1, 2, [], [0, 4, 9, 6, 2], [0, 0, 0, 0, 17, 14, 6, 3, 8], ce_m14)]) (by decide +kernel) ce_p21 (ce_pc ce_p44 (ce_pc ce_p14 (ce_pc ce_p14 (ce_pc ce_p14 ce_pn))))
def ce_m79 : Nat → Nat → Int := ce_F 5 9 0x1248440208209000449201240208000249
theorem ce_p79 : rk_M 2 ce_m79 := ce_st (b1 := 2) (T := ce_m16) (rem := [(1, 0, 1), (4, 4, 1)]) (rows := [0, 6, 4, 2, 8]) (cols := [0, 2, 4, 14, 0, 13, 6, 16, 8]) (L := [(0, 2, [(5, 5, 3)], [0, 4, 2, 6, 8], [0, 2, 12, 7, 8, 0, 14, 10, 16], ce_m14), (1, 2, [(4, 7, 2), (5, 8, 3)], [0, 2, 4, 8, 6], [0, 0, 8, 17, 10, 2, 12], ce_m14), (3, 2, [], [0, 6, 3, 5, 8], [0, 0, 11, 0, 3, 4, 9, 14, 13], ce_m34), (2, 2, [], [0, 2, 4, 8, 6], [0, 0, 0, 0, 10, 2, 12, 8, 16], ce_m14)]) (by decide +kernel) ce_p16 (ce_pc ce_p14 (ce_pc ce_p14 (ce_pc ce_p34 (ce_pc ce_p14 ce_pn))))
def ce_m80 : Nat → Nat → Int := ce_F 5 9 0x1280248049201048201200248048000249
theorem ce_p80 : rk_M 2 ce_m80 := ce_st (b1 := 2) (T := ce_m14) (rem := [(1, 0, 1), (1, 3, 4), (4, 8, 2)]) (rows := [0, 2, 8, 6, 4]) (cols := [0, 4, 10, 0, 8, 12, 2, 14]) (L := [(0, 2, [(4, 7, 1)], [0, 6, 5, 2, 9], [0, 7, 15, 17, 8, 2, 12, 0, 11], ce_m14), (3, 2, [(1, 2, 2), (4, 5, 1)], [0, 6, 5, 2, 9], [0, 2, 0, 0, 8, 0, 12, 7, 11], ce_m14), (2, 2, [(4, 4, 1)], [0, 6, 5, 2, 9], [0, 8, 0, 0, 0, 2, 12, 7, 11], ce_m14), (1, 2, [], [0, 6, 5, 2, 9], [0, 0, 0, 0, 8, 2, 12, 7, 11], ce_m14)]) (by decide +kernel) ce_p14 (ce_pc ce_p14 (ce_pc ce_p14 (ce_pc ce_p14 (ce_pc ce_p14 ce_pn))))
def ce_m81 : Nat → Nat → Int := ce_F 5 9 0x2290240052208008441208240048000249
theorem ce_p81 : rk_M 2 ce_m81 := ce_st (b1 := 2) (T := ce_m17) (rem := [(1, 0, 1), (1, 3, 4), (4, 7, 2)]) (rows := [0, 2, 4, 9, 7]) (cols := [0, 8, 14, 0, 12, 16, 6, 0, 4]) (L := [(0, 2, [(1, 1, 2), (5, 5, 2), (5, 8, 3)], [0, 5, 2, 6, 8], [0, 0, 4, 10, 8, 0, 15, 12], ce_m14), (3, 2, [(4, 4, 2)], [0, 3, 4, 8, 6], [0, 3, 10, 0, 0, 5, 13, 14, 9], ce_m14), (1, 2, [(5, 6, 2)], [0, 5, 2, 6, 8], [0, 0, 14, 0, 8, 5, 0, 12, 11], ce_m14), (2, 2, [], [0, 5, 2, 6, 8], [0, 0, 0, 0, 8, 5, 15, 12, 11], ce_m14)]) (by decide +kernel) ce_p17 (ce_pc ce_p14 (ce_pc ce_p14 (ce_pc ce_p14 (ce_pc ce_p14 ce_pn))))
def ce_m82 : Nat → Nat → Int := ce_F 5 9 0x2248440210241008241200240248000249
theorem ce_p82 : rk_M 2 ce_m82 := ce_st (b1 := 2) (T := ce_m21) (rem := [(1, 0, 1), (4, 5, 2), (4, 8, 3)]) (rows := [0, 4, 2, 6, 9]) (cols := [0, 2, 7, 4, 8, 0, 15, 11]) (L := [(0, 2, [(4, 4, 1), (5, 6, 3), (4, 7, 2)], [0, 6, 2, 4, 8], [0, 2, 8, 12, 0, 6, 0, 0, 14], ce_m16), (3, 2, [(4, 5, 1)], [0, 2, 4, 7, 8], [0, 2, 4, 0, 8, 0, 6, 10, 13], ce_m40), (1, 2, [(5, 8, 2)], [0, 6, 2, 4, 8], [0, 0, 15, 0, 2, 6, 13, 8], ce_m16), (2, 2, [], [0, 6, 2, 4, 8], [0, 0, 0, 0, 2, 6, 13, 8, 14], ce_m16)]) (by decide +kernel) ce_p21 (ce_pc ce_p16 (ce_pc ce_p40 (ce_pc ce_p16 (ce_pc ce_p16 ce_pn))))
def ce_m83 : Nat → Nat → Int := ce_F 5 9 0x248a200248208210052200041208041009
theorem ce_p83 : rk_M 2 ce_m83 := ce_st (b1 := 2) (T := ce_m21) (rem := [(1, 1, 2), (4, 8, 6)]) (rows := [0, 2, 5, 6, 9]) (cols := [8, 0, 2, 7, 14, 11, 4, 12]) (L := [(1, 2, [(4, 2, 0), (4, 7, 6), (4, 8, 4)], [0, 2, 4, 9, 6], [7, 0, 0, 2, 17, 8, 15], ce_m14), (0, 2, [(5, 4, 3), (5, 6, 5)], [0, 2, 4, 9, 6], [0, 0, 7, 2, 0, 8, 0, 15, 17], ce_m14), (6, 2, [(1, 4, 2)], [0, 2, 4, 9, 6], [0, 0, 7, 2, 0, 8, 0, 15, 17], ce_m14), (4, 2, [], [0, 2, 4, 9, 6], [0, 0, 7, 2, 0, 8, 0, 15, 17], ce_m14)]) (by decide +kernel) ce_p21 (ce_pc ce_p14 (ce_pc ce_p14 (ce_pc ce_p14 (ce_pc ce_p14 ce_pn))))
def ce_m84 : Nat → Nat → Int := ce_F 5 9 0x2441041241041208009240241008001049
theorem ce_p84 : rk_M 2 ce_m84 := ce_st (b1 := 2) (T := ce_m16) (rem := [(1, 4, 4)]) (rows := [0, 2, 6, 8, 4]) (cols := [4, 16, 10, 6, 0, 8, 2, 13, 15]) (L := [(4, 2, [(1, 2, 2), (4, 3, 0), (4, 7, 1)], [0, 2, 6, 8, 4], [6, 13, 0, 0, 0, 8, 2, 0, 15], ce_m16), (1, 2, [(4, 6, 0), (5, 8, 2)], [0, 2, 6, 8, 4], [2, 0, 14, 6, 0, 8, 0, 13], ce_m16), (2, 2, [(4, 5, 0)], [0, 2, 6, 8, 4], [8, 0, 0, 6, 0, 0, 2, 13, 15], ce_m16), (0, 2, [], [0, 2, 6, 8, 4], [0, 0, 0, 6, 0, 8, 2, 13, 15], ce_m16)]) (by decide +kernel) ce_p16 (ce_pc ce_p16 (ce_pc ce_p16 (ce_pc ce_p16 (ce_pc ce_p16 ce_pn))))
def ce_m85 : Nat → Nat → Int := ce_F 5 9 0x1490048282408002450201241008000049
theorem ce_p85 : rk_M 2 ce_m85 := ce_st (b1 := 2) (T := ce_m17) (rem := [(1, 0, 1), (4, 8, 2)]) (rows := [0, 7, 2, 5, 8]) (cols := [0, 10, 13, 5, 8, 17, 7, 14]) (L := [(0, 2, [(5, 6, 1), (5, 7, 2)], [0, 6, 3, 4, 9], [0, 7, 14, 4, 9, 16, 0, 0, 12], ce_m17), (1, 2, [(5, 4, 2)], [0, 6, 3, 4, 9], [0, 0, 8, 4, 0, 16, 6, 15, 12], ce_m17), (2, 2, [], [0, 6, 3, 4, 9], [0, 0, 0, 4, 9, 16, 6, 15, 12], ce_m17)]) (by decide +kernel) ce_p17 (ce_pc ce_p17 (ce_pc ce_p17 (ce_pc ce_p17 ce_pn)))
def ce_m86 : Nat → Nat → Int := ce_F 5 9 0x249020049044004820120820805000024a
theorem ce_p86 : rk_M 2 ce_m86 := ce_st (b1 := 2) (T := ce_m24) (rem := [(1, 0, 1), (1, 2, 2)]) (rows := [0, 3, 5, 6, 8]) (cols := [0, 5, 0, 14, 2, 9, 11, 13, 7]) (L := [(0, 2, [(1, 1, 2), (5, 6, 3)], [0, 2, 5, 7, 9], [0, 0, 9, 7, 4, 13, 0, 15, 16], ce_m17), (2, 2, [(1, 1, 1), (5, 7, 3)], [0, 3, 5, 6, 8], [0, 0, 0, 14, 9, 11, 13, 0, 5], ce_m14), (1, 2, [(5, 8, 3)], [0, 3, 5, 6, 8], [0, 0, 0, 4, 9, 11, 13, 15], ce_m14), (3, 2, [], [0, 3, 5, 6, 8], [0, 0, 0, 0, 9, 11, 13, 15, 5], ce_m14)]) (by decide +kernel) ce_p24 (ce_pc ce_p17 (ce_pc ce_p14 (ce_pc ce_p14 (ce_pc ce_p14 ce_pn))))
def ce_m87 : Nat → Nat → Int := ce_F 5 9 0x1448440288409008240040200248000249
theorem ce_p87 : rk_M 2 ce_m87 := ce_st (b1 := 2) (T := ce_m16) (rem := [(1, 3, 4), (4, 6, 2)]) (rows := [0, 2, 4, 8, 6]) (cols := [2, 8, 6, 0, 14, 10, 0, 12, 16]) (L := [(3, 2, [(4, 6, 1)], [0, 2, 4, 6, 8], [2, 4, 6, 0, 8, 12, 0, 10, 14], ce_m23), (0, 2, [(0, 1, 6), (5, 4, 1), (5, 7, 2), (4, 8, 6)], [0, 0, 2, 5, 6], [0, 5, 11, 0, 0, 6, 9], ce_m5), (1, 2, [(0, 1, 6), (1, 2, 4), (4, 8, 6)], [0, 0, 2, 5, 6], [0, 0, 0, 0, 4, 6, 9, 10], ce_m5), (2, 2, [(0, 1, 6), (4, 8, 6)], [0, 0, 2, 5, 6], [0, 0, 0, 0, 4, 6, 9, 10], ce_m5)]) (by decide +kernel) ce_p16 (ce_pc ce_p23 (ce_pc ce_p5 (ce_pc ce_p5 (ce_pc ce_p5 ce_pn))))
def ce_m88 : Nat → Nat → Int := ce_F 5 9 0x220940820a048009041200048048000249
theorem ce_p88 : rk_M 2 ce_m88 := ce_st (b1 := 2) (T := ce_m16) (rem := [(1, 0, 1), (4, 4, 1), (4, 6, 2), (4, 8, 3)]) (rows := [0, 6, 2, 4, 8]) (cols := [0, 6, 2, 14, 0, 13, 0, 8]) (L := [(0, 2, [(5, 5, 3), (4, 7, 1)], [0, 4, 6, 8, 2], [0, 8, 14, 6, 2, 0, 4, 0, 10], ce_m21), (2, 2, [(4, 5, 1), (5, 7, 3)], [0, 6, 2, 4, 8], [0, 13, 0, 9, 6, 0, 2, 0, 14], ce_m16), (3, 2, [], [0, 2, 4, 7, 8], [0, 4, 0, 0, 2, 6, 8, 10, 13], ce_m40), (1, 2, [], [0, 6, 2, 4, 8], [0, 0, 0, 0, 6, 13, 2, 8, 14], ce_m16)]) (by decide +kernel) ce_p16 (ce_pc ce_p21 (ce_pc ce_p16 (ce_pc ce_p40 (ce_pc ce_p16 ce_pn))))
def ce_m89 : Nat → Nat → Int := ce_F 5 9 0x224024040a048050090201049008000249
theorem ce_p89 : rk_M 2 ce_m89 := ce_st (b1 := 2) (T := ce_m17) (rem := [(1, 0, 1), (1, 1, 2), (4, 6, 2)]) (rows := [0, 2, 7, 5, 8]) (cols := [0, 0, 13, 16, 4, 8, 0, 6, 14]) (L := [(0, 2, [(5, 4, 1), (5, 8, 3)], [0, 6, 3, 9, 5], [0, 9, 15, 7, 0, 16, 11, 2], ce_m14), (1, 2, [(5, 8, 2)], [0, 6, 8, 3, 5], [0, 0, 9, 7, 12, 4, 3, 11], ce_m42), (2, 2, [(4, 4, 3)], [0, 6, 3, 9, 5], [0, 0, 0, 8, 0, 16, 11, 2, 6], ce_m14), (3, 2, [], [0, 6, 3, 9, 5], [0, 0, 0, 0, 8, 16, 11, 2, 6], ce_m14)]) (by decide +kernel) ce_p17 (ce_pc ce_p14 (ce_pc ce_p42 (ce_pc ce_p14 (ce_pc ce_p14 ce_pn))))
def ce_m90 : Nat → Nat → Int := ce_F 5 9 0x2482040209041010209209009008000249
theorem ce_p90 : rk_M 2 ce_m90 := ce_st (b1 := 2) (T := ce_m25) (rem := [(1, 0, 1), (4, 5, 1)]) (rows := [0, 7, 5, 3, 8]) (cols := [0, 3, 13, 5, 15, 0, 11, 8, 7]) (L := [(0, 2, [(4, 5, 3), (5, 7, 2)], [0, 2, 4, 8, 7], [0, 6, 3, 10, 8, 0, 16, 0, 12], ce_m14), (1, 2, [(1, 3, 1), (5, 6, 2)], [0, 3, 5, 9, 6], [0, 0, 16, 0, 9, 11, 0, 3, 13], ce_m14), (2, 2, [(4, 8, 3)], [0, 3, 5, 9, 6], [0, 0, 0, 13, 9, 11, 17, 3], ce_m14), (3, 2, [], [0, 3, 5, 9, 6], [0, 0, 0, 0, 9, 11, 17, 3, 13], ce_m14)]) (by decide +kernel) ce_p25 (ce_pc ce_p14 (ce_pc ce_p14 (ce_pc ce_p14 (ce_pc ce_p14 ce_pn))))
def ce_m91 : Nat → Nat → Int := ce_F 5 9 0x1291200202051008049040048208040209
theorem ce_p91 : rk_M 2 ce_m91 := ce_st (b1 := 2) (T := ce_m14) (rem := [(1, 1, 3), (1, 6, 4)]) (rows := [0, 2, 6, 4, 8]) (cols := [8, 0, 2, 14, 12, 7, 0, 16, 10]) (L := [(1, 2, [(4, 2, 0), (4, 7, 3), (5, 8, 6)], [0, 4, 8, 2, 6], [6, 0, 0, 16, 14, 3, 9], ce_m14), (6, 2, [(4, 4, 0)], [0, 2, 4, 7, 8], [2, 0, 4, 8, 0, 6, 0, 10, 13], ce_m43), (0, 2, [(5, 5, 3)], [0, 4, 8, 2, 6], [0, 0, 6, 2, 14, 0, 0, 16, 8], ce_m14), (3, 2, [], [0, 4, 8, 2, 6], [0, 0, 6, 0, 14, 3, 0, 16, 8], ce_m14)]) (by decide +kernel) ce_p14 (ce_pc ce_p14 (ce_pc ce_p43 (ce_pc ce_p14 (ce_pc ce_p14 ce_pn))))
def ce_m92 : Nat → Nat → Int := ce_F 5 9 0x1241048241041241001201040048002281
theorem ce_p92 : rk_M 2 ce_m92 := ce_st (b1 := 2) (T := ce_m14) (rem := [(1, 3, 3), (1, 4, 4), (4, 5, 0), (4, 6, 2)]) (rows := [0, 2, 4, 6, 8]) (cols := [8, 4, 10, 0, 0, 0, 0, 12, 14]) (L := [(3, 2, [(1, 0, 1), (4, 8, 2)], [0, 2, 4, 6, 8], [0, 4, 14, 0, 16, 8, 10, 12], ce_m14), (4, 2, [(1, 2, 2), (4, 7, 0)], [0, 2, 4, 6, 8], [12, 4, 0, 0, 0, 8, 10, 0, 14], ce_m14), (0, 2, [(4, 2, 1)], [0, 2, 4, 6, 8], [0, 4, 0, 0, 0, 8, 10, 12, 14], ce_m14), (2, 2, [], [0, 2, 4, 6, 8], [0, 4, 0, 0, 0, 8, 10, 12, 14], ce_m14)]) (by decide +kernel) ce_p14 (ce_pc ce_p14 (ce_pc ce_p14 (ce_pc ce_p14 (ce_pc ce_p14 ce_pn))))
def ce_m93 : Nat → Nat → Int := ce_F 5 9 0x1409041209009209008240049008000049
theorem ce_p93 : rk_M 2 ce_m93 := ce_st (b1 := 2) (T := ce_m16) (rem := [(4, 6, 1), (4, 8, 2)]) (rows := [0, 2, 4, 6, 8]) (cols := [4, 10, 16, 2, 8, 6, 0, 14]) (L := [(1, 2, [(4, 4, 0), (5, 7, 2)], [0, 2, 4, 6, 8], [8, 0, 15, 2, 0, 6, 10, 0, 16], ce_m16), (2, 2, [(4, 3, 0)], [0, 2, 4, 6, 8], [2, 0, 0, 0, 8, 6, 10, 14, 16], ce_m16), (0, 2, [], [0, 2, 4, 6, 8], [0, 0, 0, 2, 8, 6, 10, 14, 16], ce_m16)]) (by decide +kernel) ce_p16 (ce_pc ce_p16 (ce_pc ce_p16 (ce_pc ce_p16 ce_pn)))
def ce_m94 : Nat → Nat → Int := ce_F 5 9 0x104a440241408048009200240208001209
theorem ce_p94 : rk_M 2 ce_m94 := ce_st (b1 := 2) (T := ce_m22) (rem := [(1, 0, 1), (1, 1, 2)]) (rows := [0, 2, 4, 6, 8]) (cols := [0, 0, 2, 12, 15, 4, 6, 8, 10]) (L := [(0, 2, [(5, 5, 4)], [0, 8, 4, 2, 6], [0, 10, 8, 14, 7, 0, 12, 2, 4], ce_m20), (1, 2, [(1, 3, 4), (5, 8, 4)], [0, 4, 2, 6, 8], [0, 0, 4, 0, 13, 14, 10, 8], ce_m14), (3, 2, [(5, 7, 4)], [0, 4, 2, 6, 8], [0, 0, 4, 0, 9, 14, 10, 0, 12], ce_m14), (4, 2, [], [0, 4, 2, 6, 8], [0, 0, 4, 0, 0, 14, 10, 8, 12], ce_m14)]) (by decide +kernel) ce_p22 (ce_pc ce_p20 (ce_pc ce_p14 (ce_pc ce_p14 (ce_pc ce_p14 ce_pn))))
def ce_m95 : Nat → Nat → Int := ce_F 5 9 0x2092240241009008089200248008000249
theorem ce_p95 : rk_M 2 ce_m95 := ce_st (b1 := 2) (T := ce_m30) (rem := [(1, 0, 1), (4, 7, 1)]) (rows := [0, 3, 4, 7, 8]) (cols := [0, 8, 10, 12, 5, 7, 3, 0, 15]) (L := [(0, 2, [(5, 4, 3)], [0, 6, 3, 5, 9], [0, 5, 9, 7, 0, 15, 12, 3, 11], ce_m20), (1, 2, [(1, 2, 4), (5, 8, 3)], [0, 3, 5, 9, 6], [0, 0, 0, 16, 3, 13, 9, 11], ce_m14), (3, 2, [(1, 2, 3)], [0, 3, 5, 9, 6], [0, 0, 0, 0, 3, 13, 9, 11, 17], ce_m14), (2, 2, [], [0, 3, 5, 9, 6], [0, 0, 0, 0, 3, 13, 9, 11, 17], ce_m14)]) (by decide +kernel) ce_p30 (ce_pc ce_p20 (ce_pc ce_p14 (ce_pc ce_p14 (ce_pc ce_p14 ce_pn))))
def ce_m96 : Nat → Nat → Int := ce_F 5 9 0x228a00120228100a010240241200001049
theorem ce_p96 : rk_M 2 ce_m96 := ce_st (b1 := 2) (T := ce_m21) (rem := [(1, 2, 1), (4, 7, 0), (4, 8, 4)]) (rows := [0, 5, 2, 6, 9]) (cols := [11, 8, 0, 3, 4, 13, 6]) (L := [(2, 2, [(5, 3, 1), (5, 5, 4), (5, 6, 0)], [0, 4, 2, 9, 6], [2, 7, 0, 0, 15, 0, 0, 8, 17], ce_m14), (0, 2, [(4, 8, 1)], [0, 3, 4, 6, 8], [0, 12, 0, 5, 9, 7, 3, 10], ce_m43), (1, 2, [(5, 7, 4)], [0, 4, 2, 9, 6], [0, 0, 0, 6, 9, 14, 3, 0, 17], ce_m14), (4, 2, [], [0, 4, 2, 9, 6], [0, 0, 0, 6, 0, 14, 3, 8, 17], ce_m14)]) (by decide +kernel) ce_p21 (ce_pc ce_p14 (ce_pc ce_p43 (ce_pc ce_p14 (ce_pc ce_p14 ce_pn))))
def ce_m97 : Nat → Nat → Int := ce_F 5 9 0x149100021224000a00a200240208001209
theorem ce_p97 : rk_M 2 ce_m97 := ce_st (b1 := 2) (T := ce_m16) (rem := [(1, 0, 1), (1, 1, 2), (4, 8, 4)]) (rows := [0, 3, 4, 6, 8]) (cols := [0, 0, 3, 10, 16, 7, 5, 14]) (L := [(0, 2, [(5, 2, 1), (5, 5, 4)], [0, 6, 3, 9, 4], [0, 5, 0, 7, 14, 0, 16, 9, 12], ce_m17), (1, 2, [(1, 3, 3)], [0, 3, 4, 6, 8], [0, 0, 3, 0, 13, 7, 5, 14, 16], ce_m16), (3, 2, [(5, 7, 4)], [0, 7, 4, 2, 8], [0, 0, 11, 0, 15, 7, 5, 0, 8], ce_m16), (4, 2, [], [0, 7, 4, 2, 8], [0, 0, 11, 0, 0, 7, 5, 14, 8], ce_m16)]) (by decide +kernel) ce_p16 (ce_pc ce_p17 (ce_pc ce_p16 (ce_pc ce_p16 (ce_pc ce_p16 ce_pn))))
def ce_m98 : Nat → Nat → Int := ce_F 5 9 0x1208448208241202211002009008000049
theorem ce_p98 : rk_M 2 ce_m98 := ce_st (b1 := 2) (T := ce_m15) (rem := [(4, 4, 0), (4, 5, 2), (4, 8, 1)]) (rows := [0, 4, 8, 2, 6]) (cols := [8, 2, 12, 4, 0, 0, 14, 17]) (L := [(0, 2, [(5, 3, 2), (4, 7, 1)], [0, 4, 8, 2, 6], [0, 17, 5, 0, 8, 12, 14, 0, 2], ce_m15), (1, 2, [(5, 6, 2)], [0, 4, 8, 2, 6], [0, 0, 15, 4, 8, 12, 0, 17, 2], ce_m15), (2, 2, [], [0, 4, 8, 2, 6], [0, 0, 0, 4, 8, 12, 14, 17, 2], ce_m15)]) (by decide +kernel) ce_p15 (ce_pc ce_p15 (ce_pc ce_p15 (ce_pc ce_p15 ce_pn)))
def ce_m99 : Nat → Nat → Int := ce_F 5 9 0x2249000448208042410200241008001049
theorem ce_p99 : rk_M 2 ce_m99 := ce_st (b1 := 2) (T := ce_m14) (rem := [(1, 0, 1), (1, 1, 2), (1, 2, 3), (4, 7, 4)]) (rows := [0, 3, 6, 5, 9]) (cols := [0, 0, 0, 9, 11, 13, 5, 0, 14]) (L := [(0, 2, [(5, 3, 1)], [0, 4, 3, 8, 6], [0, 3, 11, 0, 15, 4, 8, 12, 7], ce_m20), (1, 2, [(5, 8, 4)], [0, 3, 6, 4, 9], [0, 0, 2, 5, 14, 7, 17, 12], ce_m17), (2, 2, [(1, 4, 4)], [0, 3, 6, 5, 9], [0, 0, 0, 9, 0, 13, 5, 11, 14], ce_m14), (4, 2, [], [0, 3, 6, 5, 9], [0, 0, 0, 9, 0, 13, 5, 11, 14], ce_m14)]) (by decide +kernel) ce_p14 (ce_pc ce_p20 (ce_pc ce_p17 (ce_pc ce_p14 (ce_pc ce_p14 ce_pn))))
def ce_m100 : Nat → Nat → Int := ce_F 5 9 0x2452200001450240202041008240040209
theorem ce_p100 : rk_M 2 ce_m100 := ce_st (b1 := 2) (T := ce_m27) (rem := [(1, 1, 1), (1, 6, 4)]) (rows := [0, 3, 4, 6, 8]) (cols := [8, 0, 3, 14, 7, 12, 0, 5, 10]) (L := [(1, 2, [(5, 2, 0), (5, 4, 3), (5, 7, 6)], [0, 3, 9, 5, 6], [7, 0, 0, 2, 0, 15, 8, 0, 17], ce_m14), (6, 2, [(1, 3, 3), (4, 5, 0)], [0, 3, 9, 5, 6], [15, 0, 6, 0, 3, 0, 0, 9, 17], ce_m14), (0, 2, [(5, 8, 3)], [0, 3, 9, 5, 6], [0, 0, 6, 16, 3, 15, 0, 9], ce_m14), (3, 2, [], [0, 3, 9, 5, 6], [0, 0, 6, 0, 3, 15, 0, 9, 17], ce_m14)]) (by decide +kernel) ce_p27 (ce_pc ce_p14 (ce_pc ce_p14 (ce_pc ce_p14 (ce_pc ce_p14 ce_pn))))
def ce_m101 : Nat → Nat → Int := ce_F 5 9 0x1211048210248009040240049008000049
theorem ce_p101 : rk_M 2 ce_m101 := ce_st (b1 := 2) (T := ce_m15) (rem := [(4, 7, 1), (4, 8, 2)]) (rows := [0, 2, 4, 6, 8]) (cols := [8, 10, 12, 2, 6, 14, 16]) (L := [(0, 2, [(5, 5, 1)], [0, 6, 8, 2, 4], [0, 16, 4, 2, 6, 0, 15, 10, 8], ce_m15), (1, 2, [(5, 6, 2)], [0, 4, 8, 2, 6], [0, 0, 14, 8, 6, 16, 0, 12, 2], ce_m15), (2, 2, [], [0, 4, 8, 2, 6], [0, 0, 0, 8, 6, 16, 15, 12, 2], ce_m15)]) (by decide +kernel) ce_p15 (ce_pc ce_p15 (ce_pc ce_p15 (ce_pc ce_p15 ce_pn)))
def ce_m102 : Nat → Nat → Int := ce_F 5 9 0x144a040009448041001200041208201009
theorem ce_p102 : rk_M 2 ce_m102 := ce_st (b1 := 2) (T := ce_m14) (rem := [(1, 0, 1), (1, 1, 2), (1, 7, 4)]) (rows := [0, 2, 4, 6, 8]) (cols := [0, 0, 4, 8, 17, 12, 14, 0, 10]) (L := [(0, 2, [(5, 5, 4)], [0, 2, 5, 6, 8], [0, 9, 16, 4, 7, 0, 15, 11, 13], ce_m17), (1, 2, [(5, 6, 4), (5, 8, 7)], [0, 2, 4, 6, 8], [0, 0, 4, 8, 15, 12, 0, 11], ce_m14), (7, 2, [(1, 4, 3)], [0, 2, 4, 6, 8], [0, 0, 4, 8, 0, 12, 14, 0, 10], ce_m14), (4, 2, [], [0, 2, 4, 6, 8], [0, 0, 4, 8, 0, 12, 14, 0, 10], ce_m14)]) (by decide +kernel) ce_p14 (ce_pc ce_p17 (ce_pc ce_p14 (ce_pc ce_p14 (ce_pc ce_p14 ce_pn))))
def ce_m103 : Nat → Nat → Int := ce_F 5 9 0x1481040201240209200240241008001049
theorem ce_p103 : rk_M 2 ce_m103 := ce_st (b1 := 2) (T := ce_m14) (rem := [(1, 1, 2), (1, 2, 4), (4, 5, 0), (4, 8, 4)]) (rows := [0, 2, 5, 6, 8]) (cols := [2, 0, 0, 8, 16, 0, 7, 11]) (L := [(1, 2, [(4, 3, 0), (5, 7, 2)], [0, 5, 2, 9, 7], [11, 0, 9, 0, 13, 7, 2, 0, 17], ce_m14), (2, 2, [(1, 4, 3)], [0, 6, 8, 2, 4], [16, 0, 0, 4, 0, 6, 15, 13, 8], ce_m17), (4, 2, [(4, 6, 0)], [0, 2, 5, 6, 8], [7, 0, 0, 8, 0, 2, 0, 11, 16], ce_m14), (0, 2, [], [0, 2, 5, 6, 8], [0, 0, 0, 8, 0, 2, 7, 11, 16], ce_m14)]) (by decide +kernel) ce_p14 (ce_pc ce_p14 (ce_pc ce_p17 (ce_pc ce_p14 (ce_pc ce_p14 ce_pn))))
def ce_m104 : Nat → Nat → Int := ce_F 5 9 0x1091200250201009211000240208001209
theorem ce_p104 : rk_M 2 ce_m104 := ce_st (b1 := 2) (T := ce_m16) (rem := [(1, 0, 1), (1, 1, 3), (4, 8, 4)]) (rows := [0, 2, 8, 5, 7]) (cols := [0, 0, 8, 17, 11, 6, 4, 15]) (L := [(0, 2, [(5, 5, 3)], [0, 6, 2, 4, 9], [0, 2, 4, 7, 14, 0, 16, 8, 12], ce_m17), (1, 2, [(1, 4, 4)], [0, 2, 8, 5, 7], [0, 0, 8, 12, 0, 6, 4, 15, 11], ce_m16), (3, 2, [(4, 7, 4)], [0, 2, 8, 5, 7], [0, 0, 8, 0, 15, 6, 4, 0, 11], ce_m16), (4, 2, [], [0, 2, 8, 5, 7], [0, 0, 8, 0, 0, 6, 4, 15, 11], ce_m16)]) (by decide +kernel) ce_p16 (ce_pc ce_p17 (ce_pc ce_p16 (ce_pc ce_p16 (ce_pc ce_p16 ce_pn))))
def ce_m105 : Nat → Nat → Int := ce_F 5 9 0x1210049212088009480040049040000049
theorem ce_p105 : rk_M 2 ce_m105 := ce_st (b1 := 2) (T := ce_m15) (rem := [(4, 7, 0), (4, 8, 2)]) (rows := [0, 2, 5, 7, 9]) (cols := [11, 14, 13, 2, 8, 6, 17]) (L := [(0, 2, [(4, 4, 1), (5, 6, 2)], [0, 5, 2, 7, 9], [0, 9, 3, 17, 0, 5, 0, 14, 13], ce_m15), (1, 2, [(5, 3, 2)], [0, 5, 2, 7, 9], [0, 0, 16, 0, 9, 5, 2, 14, 13], ce_m15), (2, 2, [], [0, 5, 2, 7, 9], [0, 0, 0, 17, 9, 5, 2, 14, 13], ce_m15)]) (by decide +kernel) ce_p15 (ce_pc ce_p15 (ce_pc ce_p15 (ce_pc ce_p15 ce_pn)))
def ce_m106 : Nat → Nat → Int := ce_F 5 9 0x1291200202202008009200240208001241
theorem ce_p106 : rk_M 2 ce_m106 := ce_st (b1 := 2) (T := ce_m16) (rem := [(1, 0, 1), (4, 7, 3), (4, 8, 4)]) (rows := [0, 3, 5, 6, 8]) (cols := [0, 11, 3, 15, 16, 7, 9]) (L := [(0, 2, [(1, 2, 2), (5, 5, 4)], [0, 7, 2, 5, 8], [0, 2, 0, 6, 13, 0, 17, 8, 15], ce_m16), (2, 2, [(5, 6, 3)], [0, 3, 5, 6, 8], [0, 11, 0, 8, 4, 7, 0, 15, 16], ce_m16), (3, 2, [(5, 4, 1)], [0, 3, 5, 6, 8], [0, 11, 0, 0, 0, 7, 9, 15, 16], ce_m16), (4, 2, [], [0, 3, 5, 6, 8], [0, 11, 0, 0, 0, 7, 9, 15, 16], ce_m16)]) (by decide +kernel) ce_p16 (ce_pc ce_p16 (ce_pc ce_p16 (ce_pc ce_p16 (ce_pc ce_p16 ce_pn))))
def ce_m107 : Nat → Nat → Int := ce_F 5 9 0x2211088209041209000240009040008041
theorem ce_p107 : rk_M 2 ce_m107 := ce_st (b1 := 2) (T := ce_m15) (rem := [(1, 2, 4), (4, 6, 0), (4, 8, 5)]) (rows := [0, 4, 9, 2, 7]) (cols := [14, 4, 0, 8, 16, 2, 0, 13]) (L := [(2, 2, [(1, 5, 3)], [0, 2, 4, 6, 8], [12, 4, 0, 2, 6, 0, 8, 10, 14], ce_m31), (0, 2, [(5, 7, 5)], [0, 4, 9, 2, 7], [0, 4, 0, 8, 16, 12, 14, 0, 2], ce_m15), (5, 2, [], [0, 4, 9, 2, 7], [0, 4, 0, 8, 16, 0, 14, 13, 2], ce_m15)]) (by decide +kernel) ce_p15 (ce_pc ce_p31 (ce_pc ce_p15 (ce_pc ce_p15 ce_pn)))
def ce_m108 : Nat → Nat → Int := ce_F 5 9 0x1241041402481010248000209008000049
theorem ce_p108 : rk_M 2 ce_m108 := ce_st (b1 := 2) (T := ce_m16) (rem := [(1, 1, 3), (1, 2, 4), (4, 6, 0)]) (rows := [0, 6, 8, 3, 4]) (cols := [10, 0, 0, 6, 4, 8, 0, 14, 2]) (L := [(1, 2, [(4, 8, 2)], [0, 9, 4, 6, 3], [7, 0, 5, 14, 17, 2, 11, 9], ce_m17), (2, 2, [(1, 0, 1)], [0, 6, 8, 3, 4], [0, 0, 0, 6, 4, 8, 10, 14, 2], ce_m16), (0, 2, [], [0, 6, 8, 3, 4], [0, 0, 0, 6, 4, 8, 10, 14, 2], ce_m16)]) (by decide +kernel) ce_p16 (ce_pc ce_p17 (ce_pc ce_p16 (ce_pc ce_p16 ce_pn)))
def ce_m109 : Nat → Nat → Int := ce_F 5 9 0x1248041009201282088001041008000049
theorem ce_p109 : rk_M 2 ce_m109 := ce_st (b1 := 2) (T := ce_m17) (rem := [(1, 1, 3), (1, 2, 4), (4, 5, 0)]) (rows := [0, 4, 2, 7, 9]) (cols := [14, 0, 0, 8, 5, 0, 7, 12, 11]) (L := [(1, 2, [(4, 7, 0)], [0, 5, 3, 8, 6], [13, 0, 16, 7, 8, 15, 4, 0, 2], ce_m19), (2, 2, [], [0, 2, 4, 6, 8], [4, 0, 0, 8, 3, 6, 15, 10, 13], ce_m17), (0, 2, [], [0, 4, 2, 7, 9], [0, 0, 0, 8, 5, 14, 7, 12, 11], ce_m17)]) (by decide +kernel) ce_p17 (ce_pc ce_p19 (ce_pc ce_p17 (ce_pc ce_p17 ce_pn)))
def ce_m110 : Nat → Nat → Int := ce_F 5 9 0x1441040441040201201048008240200209
theorem ce_p110 : rk_M 2 ce_m110 := ce_st (b1 := 2) (T := ce_m16) (rem := [(1, 1, 1), (1, 3, 3), (4, 5, 0)]) (rows := [0, 6, 2, 4, 8]) (cols := [2, 0, 6, 0, 16, 0, 8, 14, 13]) (L := [(1, 2, [(5, 8, 7)], [0, 8, 3, 5, 6], [9, 0, 10, 13, 14, 3, 6, 5], ce_m29), (3, 2, [(1, 0, 2), (1, 7, 4)], [0, 2, 8, 4, 6], [0, 0, 12, 0, 8, 10, 16, 0, 2], ce_m14), (0, 2, [(5, 7, 6)], [0, 2, 8, 4, 6], [0, 0, 12, 0, 8, 10, 16, 0, 2], ce_m14), (7, 2, [], [0, 2, 8, 4, 6], [0, 0, 12, 0, 8, 10, 16, 0, 2], ce_m14)]) (by decide +kernel) ce_p16 (ce_pc ce_p29 (ce_pc ce_p14 (ce_pc ce_p14 (ce_pc ce_p14 ce_pn))))
def ce_m111 : Nat → Nat → Int := ce_F 5 9 0x1480240241201001201201008048000249
theorem ce_p111 : rk_M 2 ce_m111 := ce_st (b1 := 2) (T := ce_m36) (rem := [(1, 0, 1), (1, 3, 4)]) (rows := [0, 2, 4, 8, 7]) (cols := [0, 4, 10, 0, 2, 12, 8, 6, 14]) (L := [(0, 2, [(4, 5, 1)], [0, 7, 5, 3, 8], [0, 5, 15, 16, 7, 0, 11, 3, 9], ce_m18), (3, 2, [(1, 2, 2)], [0, 4, 2, 6, 9], [0, 4, 0, 0, 8, 2, 6, 12, 14], ce_m31), (2, 2, [(4, 7, 1)], [0, 6, 4, 2, 9], [0, 2, 0, 0, 6, 4, 10, 0, 8], ce_m18), (1, 2, [], [0, 6, 4, 2, 9], [0, 0, 0, 0, 6, 4, 10, 2, 8], ce_m18)]) (by decide +kernel) ce_p36 (ce_pc ce_p18 (ce_pc ce_p31 (ce_pc ce_p18 (ce_pc ce_p18 ce_pn))))
def ce_m112 : Nat → Nat → Int := ce_F 5 9 0x1248200248240008202200201208001209
theorem ce_p112 : rk_M 2 ce_m112 := ce_st (b1 := 2) (T := ce_m14) (rem := [(1, 0, 1), (1, 1, 2), (1, 4, 3), (4, 6, 3)]) (rows := [0, 5, 8, 2, 6]) (cols := [0, 0, 11, 2, 0, 16, 0, 12, 8]) (L := [(0, 2, [(5, 2, 1), (4, 8, 3)], [0, 5, 2, 6, 8], [0, 2, 0, 16, 10, 8, 13, 6], ce_m16), (1, 2, [], [0, 3, 4, 7, 9], [0, 0, 3, 5, 11, 14, 7, 12, 17], ce_m16), (4, 2, [], [0, 2, 5, 6, 8], [0, 0, 2, 8, 0, 15, 6, 13, 16], ce_m16), (3, 2, [], [0, 5, 8, 2, 6], [0, 0, 11, 0, 0, 16, 2, 12, 8], ce_m14)]) (by decide +kernel) ce_p14 (ce_pc ce_p16 (ce_pc ce_p16 (ce_pc ce_p16 (ce_pc ce_p14 ce_pn))))
def ce_m113 : Nat → Nat → Int := ce_F 5 9 0x2481040242081008011200241008001049
theorem ce_p113 : rk_M 2 ce_m113 := ce_st (b1 := 2) (T := ce_m16) (rem := [(1, 0, 1), (1, 4, 4)]) (rows := [0, 3, 6, 8, 4]) (cols := [0, 16, 10, 7, 0, 9, 3, 13, 15]) (L := [(0, 2, [(5, 3, 1), (5, 6, 4)], [0, 2, 5, 7, 8], [0, 3, 6, 0, 10, 8, 0, 13, 5], ce_m21), (4, 2, [(1, 2, 2), (4, 7, 1)], [0, 3, 6, 8, 4], [0, 13, 0, 7, 0, 9, 3, 0, 15], ce_m16), (1, 2, [(5, 8, 2)], [0, 3, 6, 8, 4], [0, 0, 14, 7, 0, 9, 3, 13], ce_m16), (2, 2, [], [0, 3, 6, 8, 4], [0, 0, 0, 7, 0, 9, 3, 13, 15], ce_m16)]) (by decide +kernel) ce_p16 (ce_pc ce_p21 (ce_pc ce_p16 (ce_pc ce_p16 (ce_pc ce_p16 ce_pn))))
def ce_m114 : Nat → Nat → Int := ce_F 5 9 0x1240049202088008280040209040000049
theorem ce_p114 : rk_M 2 ce_m114 := ce_st (b1 := 1) (T := ce_m13) (rem := [(4, 6, 1), (4, 7, 0), (4, 8, 2)]) (rows := [0, 2, 5, 7, 9]) (cols := [9, 10, 5, 2, 6, 13]) (L := [(0, 1, [(4, 4, 1), (5, 5, 2)], [0, 2, 5, 7, 9], [0, 6, 12, 2, 0, 0, 10, 9, 5], ce_m13), (1, 1, [(5, 3, 2)], [0, 2, 5, 7, 9], [0, 0, 3, 0, 6, 13, 10, 9, 5], ce_m13), (2, 1, [], [0, 2, 5, 7, 9], [0, 0, 0, 2, 6, 13, 10, 9, 5], ce_m13)]) (by decide +kernel) ce_p13 (ce_pc ce_p13 (ce_pc ce_p13 (ce_pc ce_p13 ce_pn)))
def ce_m115 : Nat → Nat → Int := ce_F 5 8 0x449408210241041049009009000249
theorem ce_p115 : rk_M 2 ce_m115 := ce_st (b1 := 2) (T := ce_m21) (rem := [(4, 4, 1), (4, 7, 3)]) (rows := [0, 4, 2, 6, 9]) (cols := [2, 7, 8, 4, 0, 15, 11]) (L := [(2, 2, [(1, 0, 1), (4, 5, 1), (5, 6, 3)], [0, 6, 2, 4, 8], [0, 13, 0, 9, 6, 0, 0, 14], ce_m16), (3, 2, [(4, 4, 0)], [0, 2, 4, 7, 8], [2, 4, 0, 0, 0, 6, 10, 13], ce_m40), (0, 2, [(5, 7, 1)], [0, 6, 2, 4, 8], [0, 15, 0, 0, 6, 13, 8], ce_m16), (1, 2, [], [0, 6, 2, 4, 8], [0, 0, 0, 0, 6, 13, 8, 14], ce_m16)]) (by decide +kernel) ce_p21 (ce_pc ce_p16 (ce_pc ce_p40 (ce_pc ce_p16 (ce_pc ce_p16 ce_pn))))
def ce_m116 : Nat → Nat → Int := ce_F 5 8 0x21244824a009242408009201000049
theorem ce_p116 : rk_M 2 ce_m116 := ce_st (b1 := 2) (T := ce_m20) (rem := [(1, 2, 4), (4, 7, 1)]) (rows := [0, 9, 2, 4, 6]) (cols := [10, 4, 0, 7, 9, 14, 2]) (L := [(2, 2, [(4, 5, 0), (4, 6, 1)], [0, 5, 6, 2, 8], [7, 8, 0, 15, 5, 0, 0, 12], ce_m14), (0, 2, [(5, 3, 1)], [0, 5, 6, 2, 8], [0, 14, 0, 0, 5, 7, 8, 12], ce_m14), (1, 2, [], [0, 5, 6, 2, 8], [0, 0, 0, 15, 5, 7, 8, 12], ce_m14)]) (by decide +kernel) ce_p20 (ce_pc ce_p14 (ce_pc ce_p14 (ce_pc ce_p14 ce_pn)))
def ce_m117 : Nat → Nat → Int := ce_F 5 8 0x442440290208448041201209000249
theorem ce_p117 : rk_M 2 ce_m117 := ce_st (b1 := 2) (T := ce_m17) (rem := []) (rows := [0, 2, 4, 6, 9]) (cols := [8, 4, 12, 6, 10, 2, 14, 16]) (L := [(0, 2, [(3, 3, 2), (1, 1, 2), (5, 4, 2), (1, 5, 2), (5, 6, 3)], [0, 3, 4, 0, 6], [0, 0, 6, 11, 0, 0, 0, 3], ce_m4), (1, 2, [(3, 3, 2), (1, 3, 4), (1, 5, 2), (5, 7, 2)], [0, 3, 4, 0, 6], [0, 0, 2, 0, 7, 0, 10], ce_m4), (2, 2, [(3, 3, 2), (1, 5, 2)], [0, 3, 4, 0, 6], [0, 0, 0, 5, 7, 0, 10, 3], ce_m4), (3, 2, [(3, 3, 2), (1, 5, 2)], [0, 3, 4, 0, 6], [0, 0, 0, 0, 7, 0, 10, 3], ce_m4)]) (by decide +kernel) ce_p17 (ce_pc ce_p4 (ce_pc ce_p4 (ce_pc ce_p4 (ce_pc ce_p4 ce_pn))))
def ce_m118 : Nat → Nat → Int := ce_F 5 8 0x91288411088200249048041001209
theorem ce_p118 : rk_M 2 ce_m118 := ce_st (b1 := 2) (T := ce_m16) (rem := []) (rows := [0, 3, 5, 6, 8]) (cols := [3, 13, 5, 15, 16, 7, 9, 11]) (L := [(0, 2, [(3, 4, 1), (1, 3, 1), (5, 4, 2), (5, 5, 1), (1, 6, 1)], [0, 3, 5, 6], [0, 6, 3, 0, 0, 0, 0, 11], ce_m4), (3, 2, [(3, 4, 1), (1, 1, 3), (1, 6, 1), (5, 7, 4)], [0, 3, 5, 6], [0, 0, 3, 0, 10, 7], ce_m4), (4, 2, [(3, 4, 1), (1, 1, 2), (1, 6, 1)], [0, 3, 5, 6], [0, 0, 3, 0, 0, 7, 0, 11], ce_m4), (1, 2, [(3, 4, 1), (1, 6, 1)], [0, 3, 5, 6], [0, 0, 3, 0, 0, 7, 0, 11], ce_m4)]) (by decide +kernel) ce_p16 (ce_pc ce_p4 (ce_pc ce_p4 (ce_pc ce_p4 (ce_pc ce_p4 ce_pn))))
def ce_m119 : Nat → Nat → Int := ce_F 5 8 0x8a281201049200249041048008209
theorem ce_p119 : rk_M 2 ce_m119 := ce_st (b1 := 2) (T := ce_m20) (rem := [(1, 5, 4)]) (rows := [0, 2, 8, 6, 5]) (cols := [15, 6, 8, 11, 4, 0, 2, 12]) (L := [(5, 2, [(3, 4, 1), (4, 2, 1), (1, 3, 2), (1, 6, 1), (4, 7, 0)], [0, 2, 4, 6], [10, 2, 0, 0, 6], ce_m4), (3, 2, [(3, 4, 1), (1, 0, 3), (4, 4, 1), (1, 6, 1)], [0, 2, 4, 6], [0, 6, 2, 0, 0, 0, 0, 10], ce_m4), (0, 2, [(3, 4, 1), (1, 1, 1), (1, 6, 1)], [0, 2, 4, 6], [0, 0, 2, 0, 6, 0, 0, 10], ce_m4), (1, 2, [(3, 4, 1), (1, 6, 1)], [0, 2, 4, 6], [0, 0, 2, 0, 6, 0, 0, 10], ce_m4)]) (by decide +kernel) ce_p20 (ce_pc ce_p4 (ce_pc ce_p4 (ce_pc ce_p4 (ce_pc ce_p4 ce_pn))))
def ce_m120 : Nat → Nat → Int := ce_F 5 8 0x409241242408240409009201000049
theorem ce_p120 : rk_M 2 ce_m120 := ce_st (b1 := 2) (T := ce_m14) (rem := [(1, 2, 4), (4, 6, 1)]) (rows := [0, 2, 5, 9, 6]) (cols := [2, 11, 0, 4, 12, 8, 0, 15]) (L := [(2, 2, [(4, 7, 1)], [0, 2, 4, 9, 6], [8, 14, 0, 16, 6, 4, 12], ce_m17), (1, 2, [(4, 4, 0)], [0, 5, 2, 6, 9], [15, 0, 0, 5, 0, 11, 8, 12], ce_m14), (0, 2, [], [0, 5, 2, 6, 9], [0, 0, 0, 5, 15, 11, 8, 12], ce_m14)]) (by decide +kernel) ce_p14 (ce_pc ce_p17 (ce_pc ce_p14 (ce_pc ce_p14 ce_pn)))
def ce_m121 : Nat → Nat → Int := ce_F 5 8 0x28904044020a20904800824800104a
theorem ce_p121 : rk_M 2 ce_m121 := ce_st (b1 := 2) (T := ce_m14) (rem := [(1, 0, 3), (4, 5, 2)]) (rows := [0, 5, 2, 9, 6]) (cols := [0, 7, 2, 11, 8, 0, 17, 12]) (L := [(0, 2, [(4, 7, 4)], [0, 2, 6, 4, 8], [0, 4, 16, 8, 15, 6, 12], ce_m17), (4, 2, [(1, 2, 1)], [0, 8, 4, 6, 3], [0, 12, 0, 16, 0, 6, 8, 3], ce_m14), (1, 2, [(5, 6, 2)], [0, 8, 4, 6, 3], [0, 0, 9, 16, 0, 6, 0, 3], ce_m14), (2, 2, [], [0, 8, 4, 6, 3], [0, 0, 0, 16, 0, 6, 8, 3], ce_m14)]) (by decide +kernel) ce_p14 (ce_pc ce_p17 (ce_pc ce_p14 (ce_pc ce_p14 (ce_pc ce_p14 ce_pn))))
def ce_m122 : Nat → Nat → Int := ce_F 5 8 0x289041452008041209009201000049
theorem ce_p122 : rk_M 2 ce_m122 := ce_st (b1 := 2) (T := ce_m20) (rem := [(1, 2, 4)]) (rows := [0, 2, 4, 9, 6]) (cols := [4, 10, 0, 2, 8, 6, 14, 12]) (L := [(2, 2, [(3, 4, 3), (4, 3, 0), (4, 6, 1), (1, 7, 3)], [0, 2, 4, 7], [4, 8, 0, 0, 2, 6], ce_m5), (1, 2, [(3, 4, 3), (4, 5, 0), (1, 7, 3)], [0, 2, 4, 7], [6, 0, 0, 4, 2, 0, 8], ce_m5), (0, 2, [(3, 4, 3), (1, 7, 3)], [0, 2, 4, 7], [0, 0, 0, 4, 2, 6, 8], ce_m5)]) (by decide +kernel) ce_p20 (ce_pc ce_p5 (ce_pc ce_p5 (ce_pc ce_p5 ce_pn)))
def ce_m123 : Nat → Nat → Int := ce_F 5 8 0x91088248201241201048041001209
theorem ce_p123 : rk_M 2 ce_m123 := ce_st (b1 := 2) (T := ce_m17) (rem := [(1, 1, 4), (4, 7, 3)]) (rows := [0, 6, 2, 8, 4]) (cols := [6, 0, 3, 10, 8, 15, 16]) (L := [(1, 2, [(1, 4, 2), (4, 6, 0)], [0, 4, 2, 6, 9], [4, 0, 10, 12, 0, 14, 0, 8], ce_m14), (3, 2, [(1, 0, 1)], [0, 4, 2, 6, 9], [0, 0, 10, 0, 17, 14, 4, 8], ce_m14), (4, 2, [(3, 4, 1), (1, 2, 1), (4, 5, 0)], [0, 2, 4, 6], [6, 0, 0, 0, 0, 0, 2, 10], ce_m4), (0, 2, [(3, 4, 1), (1, 2, 1)], [0, 2, 4, 6], [0, 0, 0, 0, 0, 6, 2, 10], ce_m4)]) (by decide +kernel) ce_p17 (ce_pc ce_p14 (ce_pc ce_p14 (ce_pc ce_p4 (ce_pc ce_p4 ce_pn))))
def ce_m124 : Nat → Nat → Int := ce_F 5 8 0x241248209209088081001048000209
theorem ce_p124 : rk_M 2 ce_m124 := ce_st (b1 := 2) (T := ce_m16) (rem := [(4, 4, 1), (4, 5, 0), (4, 7, 3)]) (rows := [0, 6, 3, 5, 8]) (cols := [3, 13, 6, 15, 0, 0, 8]) (L := [(0, 2, [(4, 2, 1), (4, 6, 3)], [0, 6, 3, 5, 8], [0, 6, 0, 8, 13, 3, 0, 15], ce_m16), (3, 2, [(1, 1, 1)], [0, 6, 3, 5, 8], [0, 0, 6, 0, 13, 3, 8, 15], ce_m16), (1, 2, [], [0, 6, 3, 5, 8], [0, 0, 6, 0, 13, 3, 8, 15], ce_m16)]) (by decide +kernel) ce_p16 (ce_pc ce_p16 (ce_pc ce_p16 (ce_pc ce_p16 ce_pn)))
def ce_m125 : Nat → Nat → Int := ce_F 5 8 0x251009009241210408041201000049
theorem ce_p125 : rk_M 2 ce_m125 := ce_st (b1 := 2) (T := ce_m14) (rem := [(1, 2, 3), (4, 4, 0), (4, 7, 1)]) (rows := [0, 2, 8, 5, 6]) (cols := [2, 16, 0, 7, 0, 15, 8]) (L := [(2, 2, [(5, 5, 1), (4, 6, 0)], [0, 2, 8, 5, 6], [8, 14, 0, 7, 2, 0, 0, 16], ce_m14), (1, 2, [(4, 3, 0)], [0, 2, 8, 5, 6], [7, 0, 0, 0, 2, 15, 8, 16], ce_m14), (0, 2, [], [0, 2, 8, 5, 6], [0, 0, 0, 7, 2, 15, 8, 16], ce_m14)]) (by decide +kernel) ce_p14 (ce_pc ce_p14 (ce_pc ce_p14 (ce_pc ce_p14 ce_pn)))
def ce_m126 : Nat → Nat → Int := ce_F 5 8 0x249041009049208440041201000049
theorem ce_p126 : rk_M 2 ce_m126 := ce_st (b1 := 2) (T := ce_m16) (rem := [(1, 1, 3), (4, 4, 0), (4, 5, 2)]) (rows := [0, 2, 5, 6, 8]) (cols := [6, 0, 13, 2, 0, 0, 8, 15]) (L := [(1, 2, [(4, 6, 0), (4, 7, 2)], [0, 2, 5, 6, 8], [8, 0, 15, 2, 6, 13], ce_m16), (0, 2, [(5, 3, 2)], [0, 2, 5, 6, 8], [0, 0, 3, 0, 6, 13, 8, 15], ce_m16), (2, 2, [], [0, 2, 5, 6, 8], [0, 0, 0, 2, 6, 13, 8, 15], ce_m16)]) (by decide +kernel) ce_p16 (ce_pc ce_p16 (ce_pc ce_p16 (ce_pc ce_p16 ce_pn)))
def ce_m127 : Nat → Nat → Int := ce_F 5 8 0x452200440288008288201041040209
theorem ce_p127 : rk_M 2 ce_m127 := ce_st (b1 := 2) (T := ce_m33) (rem := [(1, 0, 1)]) (rows := [0, 3, 4, 6, 8]) (cols := [0, 8, 3, 12, 5, 10, 14, 7]) (L := [(0, 2, [(5, 2, 1), (5, 7, 6)], [0, 6, 4, 9, 3], [0, 14, 0, 17, 4, 8, 7], ce_m17), (1, 2, [(1, 3, 4), (5, 6, 5)], [0, 2, 8, 4, 7], [0, 0, 7, 0, 8, 16, 0, 2], ce_m14), (6, 2, [(1, 3, 2)], [0, 2, 8, 4, 7], [0, 0, 7, 0, 8, 16, 0, 2], ce_m14), (3, 2, [], [0, 2, 8, 4, 7], [0, 0, 7, 0, 8, 16, 0, 2], ce_m14)]) (by decide +kernel) ce_p33 (ce_pc ce_p17 (ce_pc ce_p14 (ce_pc ce_p14 (ce_pc ce_p14 ce_pn))))
def ce_m128 : Nat → Nat → Int := ce_F 5 8 0x441081208209048081001209200049
theorem ce_p128 : rk_M 2 ce_m128 := ce_st (b1 := 2) (T := ce_m15) (rem := [(4, 3, 1), (5, 6, 2)]) (rows := [0, 4, 9, 2, 7]) (cols := [4, 8, 12, 0, 16, 14, 0, 2]) (L := [(1, 2, [(4, 6, 0), (5, 7, 4)], [0, 2, 7, 4, 9], [13, 0, 5, 8, 14, 16], ce_m15), (2, 2, [(4, 7, 5)], [0, 2, 8, 4, 6], [6, 0, 0, 4, 3, 8, 10], ce_m48), (7, 2, [], [0, 4, 6, 2, 8], [8, 0, 0, 3, 12, 6, 14], ce_m26), (0, 1, [], [0, 2, 7, 4, 9], [0, 0, 0, 6, 10, 12, 5], ce_m13)]) (by decide +kernel) ce_p15 (ce_pc ce_p15 (ce_pc ce_p48 (ce_pc ce_p26 (ce_pc ce_p13 ce_pn))))
def ce_m129 : Nat → Nat → Int := ce_F 5 8 0x291088281208040049008240001009
theorem ce_p129 : rk_M 2 ce_m129 := ce_st (b1 := 2) (T := ce_m21) (rem := [(1, 0, 2), (4, 7, 4)]) (rows := [0, 3, 5, 8, 6]) (cols := [0, 14, 3, 10, 4, 9, 13]) (L := [(0, 2, [(5, 6, 4), (4, 7, 1)], [0, 3, 7, 5, 8], [0, 15, 7, 3, 13, 9], ce_m16), (4, 2, [(1, 1, 2)], [0, 3, 7, 5, 8], [0, 0, 7, 3, 0, 9, 12, 15], ce_m16), (1, 2, [], [0, 3, 7, 5, 8], [0, 0, 7, 3, 0, 9, 12, 15], ce_m16)]) (by decide +kernel) ce_p21 (ce_pc ce_p16 (ce_pc ce_p16 (ce_pc ce_p16 ce_pn)))
def ce_m130 : Nat → Nat → Int := ce_F 5 8 0x249008240049082440410201000049
theorem ce_p130 : rk_M 2 ce_m130 := ce_st (b1 := 2) (T := ce_m18) (rem := []) (rows := [0, 3, 4, 8, 6]) (cols := [9, 16, 10, 5, 13, 6, 15, 2]) (L := [(0, 2, [(5, 3, 2), (4, 5, 1)], [0, 3, 4, 6, 8], [0, 8, 2, 0, 15, 0, 13, 6], ce_m16), (1, 2, [(5, 4, 2)], [0, 3, 4, 6, 8], [0, 0, 14, 3, 0, 8, 13, 6], ce_m16), (2, 2, [], [0, 3, 4, 6, 8], [0, 0, 0, 3, 15, 8, 13, 6], ce_m16)]) (by decide +kernel) ce_p18 (ce_pc ce_p16 (ce_pc ce_p16 (ce_pc ce_p16 ce_pn)))
def ce_m131 : Nat → Nat → Int := ce_F 5 8 0x249008440281082440410201000049
theorem ce_p131 : rk_M 2 ce_m131 := ce_st (b1 := 2) (T := ce_m29) (rem := [(1, 1, 4)]) (rows := [0, 4, 7, 8, 3]) (cols := [12, 0, 15, 4, 6, 3, 10, 9]) (L := [(1, 2, [(5, 6, 2), (5, 7, 0)], [0, 3, 9, 4, 6], [3, 0, 15, 6, 16, 8], ce_m14), (0, 2, [], [0, 4, 7, 8, 3], [0, 0, 13, 4, 6, 3, 10, 9], ce_m44), (2, 2, [], [0, 3, 9, 4, 6], [0, 0, 0, 6, 16, 8, 14, 2], ce_m14)]) (by decide +kernel) ce_p29 (ce_pc ce_p14 (ce_pc ce_p44 (ce_pc ce_p14 ce_pn)))
def ce_m132 : Nat → Nat → Int := ce_F 5 8 0x28a20000a240200488008241041009
theorem ce_p132 : rk_M 2 ce_m132 := ce_st (b1 := 2) (T := ce_m17) (rem := [(1, 0, 1), (1, 1, 2), (1, 6, 4)]) (rows := [0, 8, 4, 6, 2]) (cols := [0, 0, 15, 16, 5, 6, 0, 8]) (L := [(0, 2, [(5, 5, 4)], [0, 6, 3, 8, 5], [0, 5, 6, 16, 14, 0, 2, 9], ce_m17), (1, 2, [(5, 7, 6)], [0, 3, 4, 7, 9], [0, 0, 5, 9, 15, 7, 11], ce_m20), (6, 2, [(1, 4, 3), (2, 3, 1)], [0, 2, 5, 0, 6], [0, 0, 4, 2, 0, 6, 0, 9], ce_m5), (4, 2, [(2, 3, 1)], [0, 2, 5, 0, 6], [0, 0, 4, 2, 0, 6, 0, 9], ce_m5)]) (by decide +kernel) ce_p17 (ce_pc ce_p17 (ce_pc ce_p20 (ce_pc ce_p5 (ce_pc ce_p5 ce_pn))))
def ce_m133 : Nat → Nat → Int := ce_F 5 8 0x454440201208040049000248009001
theorem ce_p133 : rk_M 2 ce_m133 := ce_st (b1 := 2) (T := ce_m46) (rem := [(1, 0, 2), (1, 5, 4)]) (rows := [0, 2, 4, 6, 8]) (cols := [0, 2, 4, 6, 12, 0, 8, 10]) (L := [(0, 2, [(5, 6, 5)], [0, 2, 4, 6, 8], [0, 4, 2, 6, 9, 11, 0, 12], ce_m43), (5, 2, [(4, 7, 4)], [0, 4, 8, 3, 6], [0, 6, 14, 3, 9, 0, 16], ce_m14), (4, 2, [], [0, 4, 8, 3, 6], [0, 6, 14, 3, 0, 0, 16, 9], ce_m14)]) (by decide +kernel) ce_p46 (ce_pc ce_p43 (ce_pc ce_p14 (ce_pc ce_p14 ce_pn)))
def ce_m134 : Nat → Nat → Int := ce_F 5 8 0x451401202208050009008240001041
theorem ce_p134 : rk_M 2 ce_m134 := ce_st (b1 := 2) (T := ce_m16) (rem := [(1, 2, 1), (4, 6, 0), (5, 7, 4)]) (rows := [0, 7, 2, 4, 8]) (cols := [8, 2, 0, 12, 15, 7]) (L := [(2, 2, [(5, 4, 3), (5, 5, 0)], [0, 7, 2, 4, 8], [6, 2, 0, 12, 0, 0, 8, 14], ce_m16), (0, 2, [(5, 4, 1)], [0, 7, 2, 4, 8], [0, 2, 0, 12, 0, 7, 8, 14], ce_m16), (4, 2, [], [0, 7, 2, 4, 8], [0, 2, 0, 12, 0, 7, 8, 14], ce_m16)]) (by decide +kernel) ce_p16 (ce_pc ce_p16 (ce_pc ce_p16 (ce_pc ce_p16 ce_pn)))
def ce_m135 : Nat → Nat → Int := ce_F 5 8 0x211048280049041208008209000048
theorem ce_p135 : rk_M 2 ce_m135 := ce_st (b1 := 2) (T := ce_m15) (rem := [(4, 7, 2)]) (rows := [0, 2, 4, 6, 8]) (cols := [2, 6, 12, 8, 10, 14, 16]) (L := [(2, 1, [(4, 3, 1)], [0, 2, 4, 6, 8], [2, 6, 0, 0, 8, 10, 12, 4], ce_m13), (1, 1, [], [0, 2, 4, 6, 8], [2, 0, 0, 6, 8, 10, 12, 4], ce_m13)]) (by decide +kernel) ce_p15 (ce_pc ce_p13 (ce_pc ce_p13 ce_pn))
def ce_m136 : Nat → Nat → Int := ce_F 5 8 0x490440282208049001000209000049
theorem ce_p136 : rk_M 2 ce_m136 := ce_st (b1 := 2) (T := ce_m37) (rem := [(1, 2, 4)]) (rows := [0, 2, 4, 8, 7]) (cols := [2, 6, 0, 4, 12, 8, 10, 14]) (L := [(2, 2, [(4, 3, 1)], [0, 3, 7, 5, 8], [5, 3, 0, 0, 8, 15, 10, 13], ce_m23), (0, 2, [(0, 1, 3), (5, 4, 1), (4, 7, 3)], [0, 0, 2, 5, 7], [0, 5, 0, 9, 0, 6, 2], ce_m5), (1, 2, [(0, 1, 3), (4, 7, 3)], [0, 0, 2, 5, 7], [0, 0, 0, 9, 4, 6, 2], ce_m5)]) (by decide +kernel) ce_p37 (ce_pc ce_p23 (ce_pc ce_p5 (ce_pc ce_p5 ce_pn)))
def ce_m137 : Nat → Nat → Int := ce_F 5 7 0x4a64008a041009201048201049
theorem ce_p137 : rk_M 2 ce_m137 := ce_st (b1 := 2) (T := ce_m40) (rem := [(1, 0, 1)]) (rows := [0, 2, 4, 7, 8]) (cols := [0, 8, 2, 4, 13, 6, 10]) (L := [(0, 2, [(3, 3, 1), (5, 5, 4), (4, 6, 2)], [0, 2, 5, 0, 6], [0, 5, 9, 2, 7], ce_m9), (1, 2, [(3, 3, 1), (4, 5, 2), (5, 6, 4)], [0, 2, 4, 0, 6], [0, 0, 6, 4, 11], ce_m4), (4, 2, [(3, 3, 1), (4, 3, 2)], [0, 2, 4, 0, 6], [0, 0, 4, 0, 0, 6, 10], ce_m4), (2, 2, [(3, 3, 1)], [0, 2, 4, 0, 6], [0, 0, 0, 4, 0, 6, 10], ce_m4)]) (by decide +kernel) ce_p40 (ce_pc ce_p9 (ce_pc ce_p4 (ce_pc ce_p4 (ce_pc ce_p4 ce_pn))))
def ce_m138 : Nat → Nat → Int := ce_F 5 7 0x51201209208241240048201009
theorem ce_p138 : rk_M 2 ce_m138 := ce_st (b1 := 2) (T := ce_m38) (rem := [(1, 1, 2)]) (rows := [0, 2, 4, 6, 8]) (cols := [4, 0, 2, 6, 10, 8, 12]) (L := [(1, 2, [(4, 3, 0), (4, 6, 4)], [0, 5, 9, 2, 6], [2, 0, 7, 0, 8, 17], ce_m14), (4, 2, [(1, 0, 1)], [0, 5, 9, 2, 6], [0, 0, 7, 2, 0, 17, 8], ce_m14), (0, 2, [], [0, 5, 9, 2, 6], [0, 0, 7, 2, 0, 17, 8], ce_m14)]) (by decide +kernel) ce_p38 (ce_pc ce_p14 (ce_pc ce_p14 (ce_pc ce_p14 ce_pn)))
def ce_m139 : Nat → Nat → Int := ce_F 5 7 0x492c0240281041081048201248
theorem ce_p139 : rk_M 2 ce_m139 := ce_st (b1 := 2) (T := ce_m40) (rem := [(1, 1, 3)]) (rows := [0, 4, 6, 2, 8]) (cols := [8, 0, 4, 10, 12, 2, 6]) (L := [(1, 2, [(2, 4, 3), (4, 5, 3), (4, 6, 4)], [0, 2, 5, 6], [4, 0, 2, 6, 9], ce_m9), (3, 1, [(2, 4, 3), (5, 4, 0), (4, 6, 2)], [0, 2, 5, 6], [4, 0, 7, 0, 0, 2], ce_m3), (4, 1, [(2, 4, 3), (4, 5, 2)], [0, 2, 5, 6], [4, 0, 2, 0, 0, 0, 7], ce_m3), (2, 1, [(2, 4, 3)], [0, 2, 5, 6], [4, 0, 0, 0, 0, 2, 7], ce_m3)]) (by decide +kernel) ce_p40 (ce_pc ce_p9 (ce_pc ce_p3 (ce_pc ce_p3 (ce_pc ce_p3 ce_pn))))
def ce_m140 : Nat → Nat → Int := ce_F 5 7 0x8a001089202009048209008049
theorem ce_p140 : rk_M 2 ce_m140 := ce_st (b1 := 2) (T := ce_m21) (rem := [(1, 1, 1)]) (rows := [0, 4, 6, 2, 8]) (cols := [4, 0, 2, 8, 7, 10, 15]) (L := [(1, 1, [(3, 4, 1), (4, 3, 2), (5, 5, 4), (5, 6, 0)], [0, 2, 5, 6], [5, 0, 7, 0, 2], ce_m3), (0, 1, [(3, 4, 1), (4, 4, 2), (5, 5, 3)], [0, 2, 5, 6], [0, 0, 2, 7, 0, 0, 4], ce_m3), (5, 2, [(3, 4, 1)], [0, 2, 5, 6], [0, 0, 2, 9, 6, 0, 4], ce_m9), (2, 1, [(3, 4, 1)], [0, 2, 5, 6], [0, 0, 0, 7, 2, 0, 4], ce_m3)]) (by decide +kernel) ce_p21 (ce_pc ce_p3 (ce_pc ce_p3 (ce_pc ce_p9 (ce_pc ce_p3 ce_pn))))
def ce_m141 : Nat → Nat → Int := ce_F 5 7 0x89209202208201040201200209
theorem ce_p141 : rk_M 2 ce_m141 := ce_st (b1 := 2) (T := ce_m15) (rem := [(4, 4, 1), (5, 6, 3)]) (rows := [0, 4, 6, 8, 2]) (cols := [6, 8, 12, 14, 0, 2]) (L := [(1, 1, [(4, 2, 0)], [0, 4, 9, 2, 7], [10, 0, 0, 7, 12, 5, 2], ce_m13), (3, 2, [], [0, 6, 4, 8, 2], [8, 0, 12, 0, 6, 3, 11], ce_m26), (0, 1, [(0, 1, 4), (1, 4, 4)], [0, 0, 2, 4, 6], [0, 0, 4, 0, 0, 2, 6], ce_m3)]) (by decide +kernel) ce_p15 (ce_pc ce_p13 (ce_pc ce_p26 (ce_pc ce_p3 ce_pn)))
def ce_m142 : Nat → Nat → Int := ce_F 5 7 0x4a009212040209040248200009
theorem ce_p142 : rk_M 2 ce_m142 := ce_st (b1 := 2) (T := ce_m14) (rem := [(4, 6, 1)]) (rows := [0, 2, 6, 4, 8]) (cols := [12, 10, 8, 2, 7, 16]) (L := [(1, 2, [(4, 3, 0)], [0, 2, 6, 4, 8], [2, 0, 8, 0, 7, 16, 10], ce_m14), (0, 2, [], [0, 2, 6, 4, 8], [0, 0, 8, 2, 7, 16, 10], ce_m14)]) (by decide +kernel) ce_p14 (ce_pc ce_p14 (ce_pc ce_p14 ce_pn))
def ce_m143 : Nat → Nat → Int := ce_F 5 7 0x4904220a01020900020900004a
theorem ce_p143 : rk_M 2 ce_m143 := ce_st (b1 := 2) (T := ce_m16) (rem := [(1, 1, 1), (5, 6, 0)]) (rows := [0, 6, 2, 5, 8]) (cols := [14, 0, 6, 2, 13, 8]) (L := [(1, 2, [(4, 5, 2)], [0, 4, 3, 6, 8], [15, 0, 10, 9, 12, 0, 4], ce_m21), (0, 2, [], [0, 4, 9, 6, 2], [0, 0, 15, 5, 2, 11, 8], ce_m21), (2, 1, [(0, 1, 4), (4, 6, 4)], [0, 0, 2, 5, 6], [0, 0, 0, 4, 7, 2], ce_m3)]) (by decide +kernel) ce_p16 (ce_pc ce_p21 (ce_pc ce_p21 (ce_pc ce_p3 ce_pn)))
def ce_m144 : Nat → Nat → Int := ce_F 5 7 0x62200448041009041208000209
theorem ce_p144 : rk_M 2 ce_m144 := ce_st (b1 := 2) (T := ce_m23) (rem := [(1, 0, 2), (1, 1, 3)]) (rows := [0, 7, 4, 3, 8]) (cols := [0, 0, 8, 12, 5, 7, 2]) (L := [(0, 2, [(1, 3, 4)], [0, 6, 3, 4, 9], [0, 2, 6, 0, 4, 12, 9], ce_m44), (1, 2, [(4, 6, 3)], [0, 6, 5, 2, 9], [0, 0, 9, 3, 4, 6], ce_m23), (3, 2, [], [0, 6, 5, 2, 9], [0, 0, 9, 0, 4, 6, 3], ce_m23)]) (by decide +kernel) ce_p23 (ce_pc ce_p44 (ce_pc ce_p23 (ce_pc ce_p23 ce_pn)))
def ce_m145 : Nat → Nat → Int := ce_F 5 6 0x9508242240488009041009
theorem ce_p145 : rk_M 2 ce_m145 := ce_st (b1 := 2) (T := ce_m40) (rem := [(4, 5, 4)]) (rows := [0, 7, 2, 4, 8]) (cols := [8, 2, 5, 7, 10]) (L := [(0, 2, [(5, 3, 1)], [0, 5, 2, 6, 8], [0, 2, 5, 0, 10, 12], ce_m40), (4, 2, [(1, 1, 2), (3, 2, 1)], [0, 3, 0, 4, 6], [0, 0, 5, 7, 0, 10], ce_m4), (1, 2, [(3, 2, 1)], [0, 3, 0, 4, 6], [0, 0, 5, 7, 0, 10], ce_m4)]) (by decide +kernel) ce_p40 (ce_pc ce_p40 (ce_pc ce_p4 (ce_pc ce_p4 ce_pn)))
def ce_m146 : Nat → Nat → Int := ce_F 5 6 0x9448251001049008240049
theorem ce_p146 : rk_M 2 ce_m146 := ce_st (b1 := 2) (T := ce_m14) (rem := [(4, 4, 2)]) (rows := [0, 9, 5, 6, 2]) (cols := [11, 7, 2, 13, 0, 8]) (L := [(0, 1, [(0, 2, 4), (1, 1, 4), (5, 3, 2), (4, 5, 4), (0, 1, 2), (2, 4, 3), (1, 2, 3), (1, 4, 3)], [], [], (fun _ _ => 0)), (1, 2, [(0, 2, 4), (4, 5, 4)], [0, 3, 0, 6, 4], [0, 0, 6, 3, 10], ce_m4), (2, 1, [(0, 1, 3), (0, 2, 4), (2, 4, 3), (1, 3, 3), (1, 4, 3), (1, 5, 3)], [], [], (fun _ _ => 0))]) (by decide +kernel) ce_p14 (ce_pc ce_nil (ce_pc ce_p4 (ce_pc ce_nil ce_pn)))
def ce_m147 : Nat → Nat → Int := ce_F 5 6 0x124945100a201048200041
theorem ce_p147 : rk_M 2 ce_m147 := ce_st (b1 := 2) (T := ce_m15) (rem := []) (rows := [0, 4, 6, 9, 2]) (cols := [2, 8, 14, 6, 4, 12]) (L := [(0, 2, [(3, 3, 2), (2, 4, 1), (1, 1, 1), (1, 2, 2), (1, 5, 2)], [0, 2, 4], [0, 0, 0, 2, 7], ce_m2), (2, 2, [(3, 3, 2), (2, 4, 1), (1, 1, 1), (1, 5, 2)], [0, 2, 4], [0, 0, 0, 2, 7], ce_m2)]) (by decide +kernel) ce_p15 (ce_pc ce_p2 (ce_pc ce_p2 ce_pn))
def ce_m148 : Nat → Nat → Int := ce_F 6 15 0x1040200220005008008000104a002000040009280001000000249040000000001249
theorem ce_p148 : rk_M 1 ce_m148 := ce_st (b1 := 1) (T := ce_m49) (rem := [(1, 0, 4), (1, 1, 3), (1, 2, 2), (1, 3, 1), (1, 4, 5)]) (rows := [0, 2, 5, 7, 9, 11]) (cols := [0, 0, 0, 0, 0, 8, 2, 4, 6, 11, 13, 15, 17, 19, 21]) (L := [(0, 1, [(4, 6, 3), (4, 10, 2), (4, 13, 1), (5, 14, 4)], [0, 2, 5, 7, 9, 11], [0, 19, 13, 2, 20, 8, 0, 4, 6, 11, 0, 15, 17], ce_m49), (1, 1, [(4, 7, 3), (4, 11, 2), (5, 12, 4)], [0, 2, 5, 7, 9, 11], [0, 0, 15, 4, 16, 8, 2, 0, 6, 11, 13, 0, 0, 19, 21], ce_m49), (2, 1, [(4, 8, 3), (5, 9, 4)], [0, 2, 5, 7, 9, 11], [0, 0, 0, 6, 10, 8, 2, 4, 0, 0, 13, 15, 17, 19, 21], ce_m49), (3, 1, [(5, 5, 4)], [0, 2, 5, 7, 9, 11], [0, 0, 0, 0, 9, 0, 2, 4, 6, 11, 13, 15, 17, 19, 21], ce_m49), (4, 1, [], [0, 2, 5, 7, 9, 11], [0, 0, 0, 0, 0, 8, 2, 4, 6, 11, 13, 15, 17, 19, 21], ce_m49)]) (by decide +kernel) ce_p49 (ce_pc ce_p49 (ce_pc ce_p49 (ce_pc ce_p49 (ce_pc ce_p49 (ce_pc ce_p49 ce_pn)))))
def ce_m149 : Nat → Nat → Int := ce_F 6 13 0x9040040241041040208048040201240011008081010042200050001081
theorem ce_p149 : rk_M 2 ce_m149 := ce_st (b1 := 2) (T := ce_m106) (rem := [(1, 4, 3), (4, 5, 2), (4, 7, 0), (1, 9, 5)]) (rows := [0, 4, 8, 6, 10, 2]) (cols := [4, 8, 2, 13, 0, 0, 18, 0, 15, 0, 16, 6, 10]) (L := [(4, 2, [(1, 0, 2), (1, 10, 4), (4, 11, 2)], [0, 7, 2, 5, 8, 11], [0, 19, 7, 2, 0, 15, 8, 5, 12, 11, 0, 0, 16], ce_m110), (9, 2, [(1, 2, 1), (4, 10, 1)], [0, 7, 10, 3, 9, 5], [7, 5, 0, 16, 0, 11, 21, 9, 12, 0, 0, 3, 15], ce_m57), (0, 2, [(4, 10, 6)], [0, 8, 5, 2, 10, 6], [0, 6, 8, 19, 0, 12, 11, 2, 15, 0, 0, 4, 17], ce_m90), (2, 2, [], [0, 8, 5, 2, 10, 6], [0, 8, 0, 13, 0, 16, 15, 2, 19, 0, 6, 4, 11], ce_m95), (10, 2, [], [0, 6, 11, 2, 8, 4], [0, 4, 0, 17, 0, 10, 20, 8, 13, 0, 0, 2, 14], ce_m57)]) (by decide +kernel) ce_p106 (ce_pc ce_p110 (ce_pc ce_p57 (ce_pc ce_p90 (ce_pc ce_p95 (ce_pc ce_p57 ce_pn)))))
def ce_m150 : Nat → Nat → Int := ce_F 6 13 0xa251200001002240040040281200001040210200040209008000240049
theorem ce_p150 : rk_M 2 ce_m150 := ce_st (b1 := 2) (T := ce_m62) (rem := [(1, 0, 1), (1, 1, 2), (1, 2, 4)]) (rows := [0, 4, 3, 9, 6, 10]) (cols := [0, 0, 0, 2, 10, 9, 6, 12, 5, 16, 15, 21, 18]) (L := [(0, 2, [(5, 3, 1), (4, 12, 6)], [0, 8, 3, 7, 4, 10], [0, 7, 8, 0, 17, 5, 14, 10, 3, 20, 13, 19], ce_m63), (1, 2, [(5, 8, 7)], [0, 3, 8, 5, 7, 11], [0, 0, 17, 3, 7, 15, 5, 8, 0, 11, 20, 13, 19], ce_m65), (2, 2, [(4, 9, 6), (5, 11, 7)], [0, 4, 3, 9, 6, 10], [0, 0, 0, 2, 10, 9, 16, 20, 5, 0, 15, 0, 18], ce_m62), (6, 2, [(5, 7, 4)], [0, 4, 3, 9, 6, 10], [0, 0, 0, 2, 10, 9, 0, 0, 5, 16, 15, 21, 18], ce_m62), (7, 2, [], [0, 4, 3, 9, 6, 10], [0, 0, 0, 2, 10, 9, 0, 0, 5, 16, 15, 21, 18], ce_m62)]) (by decide +kernel) ce_p62 (ce_pc ce_p63 (ce_pc ce_p65 (ce_pc ce_p62 (ce_pc ce_p62 (ce_pc ce_p62 ce_pn)))))
def ce_m151 : Nat → Nat → Int := ce_F 6 13 0xa081048001041082200048000441000240009040001208200000008209
theorem ce_p151 : rk_M 2 ce_m151 := ce_st (b1 := 2) (T := ce_m68) (rem := [(1, 0, 2), (1, 1, 3), (1, 5, 5)]) (rows := [0, 3, 5, 6, 10, 9]) (cols := [0, 0, 3, 7, 5, 0, 15, 9, 17, 11, 18, 12, 21]) (L := [(0, 2, [(5, 9, 5), (4, 10, 3)], [0, 5, 3, 6, 8, 11], [0, 8, 4, 16, 7, 11, 13, 15, 2, 0, 0, 18, 20], ce_m71), (1, 2, [(4, 8, 3), (5, 11, 5)], [0, 6, 2, 5, 8, 10], [0, 0, 4, 6, 10, 14, 16, 18, 0, 12, 9, 0, 20], ce_m63), (5, 2, [], [0, 3, 5, 6, 8, 11], [0, 0, 7, 9, 5, 0, 3, 11, 15, 13, 16, 18, 20], ce_m65), (3, 2, [], [0, 6, 2, 5, 8, 10], [0, 0, 4, 0, 10, 0, 16, 18, 6, 12, 9, 15, 20], ce_m63)]) (by decide +kernel) ce_p68 (ce_pc ce_p71 (ce_pc ce_p63 (ce_pc ce_p65 (ce_pc ce_p63 ce_pn))))
def ce_m152 : Nat → Nat → Int := ce_F 6 12 0x28a200081001241048001208209200088081041001048008200209
theorem ce_p152 : rk_M 2 ce_m152 := ce_st (b1 := 2) (T := ce_m53) (rem := [(1, 3, 3), (1, 9, 5)]) (rows := [0, 6, 4, 2, 10, 8]) (cols := [4, 6, 11, 0, 18, 2, 15, 20, 8, 0, 16, 12]) (L := [(3, 2, [(4, 4, 1), (4, 11, 0)], [0, 7, 2, 4, 11, 8], [2, 19, 5, 0, 0, 6, 11, 20, 8, 15, 17], ce_m65), (9, 2, [(4, 5, 0), (4, 8, 1)], [0, 8, 10, 2, 6, 5], [8, 4, 14, 0, 16, 0, 18, 2, 0, 0, 6, 11], ce_m54), (0, 2, [(4, 2, 1), (4, 7, 6)], [0, 6, 4, 2, 9, 11], [0, 11, 0, 0, 16, 2, 13, 0, 8, 0, 18, 14], ce_m53), (1, 2, [(5, 10, 7)], [0, 6, 4, 2, 9, 11], [0, 0, 11, 0, 16, 2, 13, 19, 8, 0, 0, 14], ce_m53), (7, 2, [], [0, 6, 4, 2, 9, 11], [0, 0, 11, 0, 16, 2, 13, 0, 8, 0, 18, 14], ce_m53)]) (by decide +kernel) ce_p53 (ce_pc ce_p65 (ce_pc ce_p54 (ce_pc ce_p53 (ce_pc ce_p53 (ce_pc ce_p53 ce_pn)))))
def ce_m153 : Nat → Nat → Int := ce_F 6 12 0x490089000241240200208050040041040208000209201000001249
theorem ce_p153 : rk_M 2 ce_m153 := ce_st (b1 := 2) (T := ce_m92) (rem := [(1, 0, 1), (1, 1, 2), (1, 2, 3)]) (rows := [0, 2, 4, 6, 8, 11]) (cols := [0, 0, 0, 2, 11, 7, 4, 8, 12, 14, 16, 18]) (L := [(0, 2, [(1, 4, 5), (4, 8, 3)], [0, 3, 4, 8, 7, 11], [0, 2, 6, 8, 0, 11, 14, 5, 0, 16, 12, 19], ce_m99), (1, 2, [(4, 7, 3)], [0, 2, 7, 9, 4, 10], [0, 0, 10, 2, 4, 6, 12, 0, 8, 19, 14, 16], ce_m85), (2, 2, [(4, 5, 4)], [0, 2, 4, 7, 10, 8], [0, 0, 0, 2, 4, 0, 8, 6, 12, 15, 10, 17], ce_m120), (4, 2, [(4, 10, 3)], [0, 2, 7, 9, 4, 10], [0, 0, 0, 14, 0, 6, 12, 2, 8, 19, 0, 16], ce_m85), (3, 2, [], [0, 2, 7, 9, 4, 10], [0, 0, 0, 0, 0, 6, 12, 2, 8, 19, 14, 16], ce_m85)]) (by decide +kernel) ce_p92 (ce_pc ce_p99 (ce_pc ce_p85 (ce_pc ce_p120 (ce_pc ce_p85 (ce_pc ce_p85 ce_pn)))))
def ce_m154 : Nat → Nat → Int := ce_F 6 12 0x280091200249200040208091000041040048000208241000001249
theorem ce_p154 : rk_M 2 ce_m154 := ce_st (b1 := 2) (T := ce_m58) (rem := [(1, 0, 1), (1, 1, 2)]) (rows := [0, 2, 4, 7, 8, 11]) (cols := [0, 0, 2, 10, 19, 4, 6, 8, 12, 16, 14, 20]) (L := [(0, 2, [(1, 3, 5), (5, 5, 4), (4, 8, 2)], [0, 7, 9, 2, 10, 4], [0, 12, 21, 0, 2, 0, 5, 19, 0, 8, 15, 6], ce_m57), (1, 2, [(5, 6, 4), (4, 7, 2)], [0, 2, 5, 7, 10, 8], [0, 0, 4, 2, 8, 6, 0, 0, 12, 10, 16, 14], ce_m131), (3, 2, [(4, 10, 2)], [0, 5, 3, 8, 11, 6], [0, 0, 7, 0, 12, 9, 5, 15, 11, 18, 0, 16], ce_m84), (4, 2, [], [0, 4, 2, 9, 10, 7], [0, 0, 2, 0, 0, 8, 4, 14, 10, 19, 6, 17], ce_m84), (2, 2, [], [0, 7, 9, 2, 10, 4], [0, 0, 0, 0, 0, 3, 5, 19, 21, 8, 15, 6], ce_m57)]) (by decide +kernel) ce_p58 (ce_pc ce_p57 (ce_pc ce_p131 (ce_pc ce_p84 (ce_pc ce_p84 (ce_pc ce_p57 ce_pn)))))
def ce_m155 : Nat → Nat → Int := ce_F 6 12 0x240480240211008208048401040001049008000248009000000249
theorem ce_p155 : rk_M 2 ce_m155 := ce_st (b1 := 2) (T := ce_m51) (rem := [(1, 0, 1), (4, 5, 1), (4, 10, 2), (4, 11, 3)]) (rows := [0, 10, 2, 6, 4, 9]) (cols := [0, 6, 14, 12, 4, 0, 8, 17, 2, 11]) (L := [(0, 2, [(5, 7, 2), (4, 8, 1)], [0, 6, 2, 4, 10, 9], [0, 10, 8, 17, 2, 6, 4, 0, 0, 14, 12, 19], ce_m113), (2, 2, [(5, 9, 3)], [0, 2, 4, 11, 8, 7], [0, 8, 0, 18, 14, 2, 4, 6, 10, 0, 13, 17], ce_m52), (3, 2, [(4, 6, 1)], [0, 10, 2, 6, 4, 9], [0, 8, 0, 0, 4, 6, 0, 17, 2, 11, 14, 12], ce_m51), (1, 2, [], [0, 10, 2, 6, 4, 9], [0, 0, 0, 0, 4, 6, 8, 17, 2, 11, 14, 12], ce_m51)]) (by decide +kernel) ce_p51 (ce_pc ce_p113 (ce_pc ce_p52 (ce_pc ce_p51 (ce_pc ce_p51 ce_pn))))
def ce_m156 : Nat → Nat → Int := ce_F 6 12 0x29120020020009024104041204000a081001001248008000000249
theorem ce_p156 : rk_M 2 ce_m156 := ce_st (b1 := 2) (T := ce_m67) (rem := [(1, 1, 1), (4, 11, 3)]) (rows := [0, 3, 4, 10, 6, 9]) (cols := [10, 0, 14, 18, 16, 7, 5, 9, 3, 12, 20]) (L := [(1, 2, [(5, 5, 2), (5, 6, 0)], [0, 8, 3, 4, 7, 10], [3, 0, 6, 13, 5, 0, 0, 11, 8, 15, 16, 19], ce_m100), (0, 2, [(5, 4, 2), (5, 9, 3)], [0, 2, 7, 9, 11, 4], [0, 0, 18, 10, 0, 8, 6, 2, 4, 0, 13, 16], ce_m67), (2, 2, [(5, 10, 3)], [0, 2, 7, 9, 11, 4], [0, 0, 0, 12, 19, 8, 6, 2, 4, 11, 0, 16], ce_m67), (3, 2, [], [0, 2, 7, 9, 11, 4], [0, 0, 0, 0, 19, 8, 6, 2, 4, 11, 13, 16], ce_m67)]) (by decide +kernel) ce_p67 (ce_pc ce_p100 (ce_pc ce_p67 (ce_pc ce_p67 (ce_pc ce_p67 ce_pn))))
def ce_m157 : Nat → Nat → Int := ce_F 6 12 0x248240000249008000241000440208202001040041048008008209
theorem ce_p157 : rk_M 2 ce_m157 := ce_st (b1 := 2) (T := ce_m55) (rem := [(1, 0, 2), (1, 1, 1), (1, 3, 3), (1, 5, 4)]) (rows := [0, 4, 7, 2, 8, 10]) (cols := [0, 0, 2, 0, 6, 0, 16, 19, 4, 15, 10, 12]) (L := [(0, 2, [(4, 4, 1)], [0, 3, 8, 5, 11, 7], [0, 5, 2, 11, 0, 19, 7, 12, 15, 17, 9, 20], ce_m64), (1, 2, [(5, 3, 2)], [0, 10, 4, 2, 6, 8], [0, 0, 8, 0, 11, 18, 20, 6, 2, 14, 12, 4], ce_m54), (3, 2, [(4, 8, 5), (4, 11, 9)], [0, 10, 4, 2, 6, 8], [0, 0, 8, 0, 11, 2, 20, 6, 0, 4, 12], ce_m54), (5, 2, [(4, 9, 7)], [0, 10, 4, 2, 6, 8], [0, 0, 8, 0, 11, 0, 20, 6, 2, 0, 12, 4], ce_m54), (9, 2, [], [0, 10, 4, 2, 6, 8], [0, 0, 8, 0, 11, 0, 20, 6, 2, 0, 12, 4], ce_m54)]) (by decide +kernel) ce_p55 (ce_pc ce_p64 (ce_pc ce_p54 (ce_pc ce_p54 (ce_pc ce_p54 (ce_pc ce_p54 ce_pn)))))
def ce_m158 : Nat → Nat → Int := ce_F 6 12 0x441082040208012208048402200001200049000049001000000249
theorem ce_p158 : rk_M 2 ce_m158 := ce_st (b1 := 2) (T := ce_m71) (rem := [(4, 8, 2), (4, 9, 3)]) (rows := [0, 5, 3, 6, 8, 10]) (cols := [4, 2, 10, 16, 7, 13, 15, 9, 0, 0, 18, 20]) (L := [(0, 2, [(5, 5, 1), (5, 6, 2)], [0, 5, 3, 6, 8, 11], [0, 6, 10, 4, 15, 0, 0, 3, 9, 16, 18, 20], ce_m54), (1, 2, [(5, 7, 3), (5, 11, 2)], [0, 3, 5, 8, 6, 10], [0, 0, 19, 6, 13, 3, 9, 0, 11, 16, 20], ce_m54), (2, 2, [], [0, 4, 2, 7, 9, 10], [0, 0, 0, 13, 14, 6, 10, 2, 8, 17, 19, 21], ce_m54), (3, 2, [], [0, 3, 5, 8, 6, 10], [0, 0, 0, 0, 13, 3, 9, 7, 11, 16, 20, 18], ce_m54)]) (by decide +kernel) ce_p71 (ce_pc ce_p54 (ce_pc ce_p54 (ce_pc ce_p54 (ce_pc ce_p54 ce_pn))))
def ce_m159 : Nat → Nat → Int := ce_F 6 12 0x490000248482400200201090040010242008048009001000000249
theorem ce_p159 : rk_M 2 ce_m159 := ce_st (b1 := 2) (T := ce_m51) (rem := [(1, 0, 1)]) (rows := [0, 3, 4, 6, 8, 10]) (cols := [0, 18, 20, 22, 3, 5, 10, 12, 14, 7, 9, 16]) (L := [(0, 2, [(5, 9, 1), (5, 10, 3)], [0, 8, 4, 10, 3, 7], [0, 8, 17, 5, 13, 18, 14, 2, 10, 0, 0, 6], ce_m113), (1, 2, [(5, 6, 2), (5, 7, 3)], [0, 2, 5, 7, 9, 11], [0, 0, 10, 12, 2, 4, 0, 0, 15, 6, 8, 17], ce_m51), (2, 2, [(5, 8, 3)], [0, 2, 5, 7, 9, 11], [0, 0, 0, 14, 2, 4, 11, 13, 0, 6, 8, 17], ce_m51), (3, 2, [], [0, 2, 5, 7, 9, 11], [0, 0, 0, 0, 2, 4, 11, 13, 15, 6, 8, 17], ce_m51)]) (by decide +kernel) ce_p51 (ce_pc ce_p113 (ce_pc ce_p51 (ce_pc ce_p51 (ce_pc ce_p51 ce_pn))))
def ce_m160 : Nat → Nat → Int := ce_F 6 12 0x252000240202480200001211008040048041009001009000000249
theorem ce_p160 : rk_M 2 ce_m160 := ce_st (b1 := 2) (T := ce_m64) (rem := [(4, 4, 1), (4, 10, 2), (4, 11, 3)]) (rows := [0, 2, 8, 4, 11, 7]) (cols := [4, 3, 12, 17, 0, 10, 18, 14, 8, 6]) (L := [(0, 2, [(5, 5, 1), (5, 9, 2)], [0, 5, 3, 8, 6, 10], [0, 6, 14, 2, 9, 0, 5, 17, 11, 0, 13, 18], ce_m63), (1, 2, [(5, 8, 3)], [0, 8, 3, 4, 6, 11], [0, 0, 7, 15, 12, 3, 5, 10, 0, 20, 9, 18], ce_m60), (2, 2, [(5, 6, 3)], [0, 2, 9, 4, 11, 7], [0, 0, 0, 22, 2, 7, 0, 18, 10, 4, 9, 21], ce_m50), (3, 2, [], [0, 2, 9, 4, 11, 7], [0, 0, 0, 0, 2, 7, 23, 18, 10, 4, 9, 21], ce_m50)]) (by decide +kernel) ce_p64 (ce_pc ce_p63 (ce_pc ce_p60 (ce_pc ce_p50 (ce_pc ce_p50 ce_pn))))
def ce_m161 : Nat → Nat → Int := ce_F 6 12 0x209041001241009001082402040009200408000041201000008049
theorem ce_p161 : rk_M 2 ce_m161 := ce_st (b1 := 2) (T := ce_m55) (rem := [(1, 1, 2), (1, 2, 3), (1, 5, 4)]) (rows := [0, 7, 4, 3, 8, 10]) (cols := [15, 0, 0, 7, 12, 0, 19, 2, 10, 16, 4, 20]) (L := [(1, 2, [(5, 7, 2)], [0, 4, 10, 3, 6, 8], [14, 0, 9, 10, 4, 18, 6, 0, 12, 20, 2, 16], ce_m54), (2, 2, [(4, 4, 0), (4, 10, 5)], [0, 2, 11, 5, 8, 6], [4, 0, 0, 8, 0, 6, 2, 10, 14, 18, 0, 16], ce_m54), (5, 2, [(4, 6, 0)], [0, 2, 11, 5, 8, 6], [2, 0, 0, 8, 4, 0, 0, 10, 14, 18, 6, 16], ce_m54), (0, 2, [], [0, 2, 11, 5, 8, 6], [0, 0, 0, 8, 4, 0, 2, 10, 14, 18, 6, 16], ce_m54)]) (by decide +kernel) ce_p55 (ce_pc ce_p54 (ce_pc ce_p54 (ce_pc ce_p54 (ce_pc ce_p54 ce_pn))))
def ce_m162 : Nat → Nat → Int := ce_F 6 12 0x250040048201208041042012008008208201000049200000000049
theorem ce_p162 : rk_M 2 ce_m162 := ce_st (b1 := 2) (T := ce_m64) (rem := [(4, 7, 0), (4, 10, 1), (4, 11, 2)]) (rows := [0, 2, 4, 7, 10, 8]) (cols := [14, 12, 18, 3, 6, 8, 4, 0, 16, 11]) (L := [(0, 2, [(5, 9, 2)], [0, 2, 4, 7, 10, 8], [0, 20, 10, 3, 6, 8, 4, 14, 16, 0, 12, 18], ce_m64), (1, 2, [(4, 8, 2)], [0, 2, 4, 7, 10, 8], [0, 0, 16, 3, 6, 8, 4, 14, 0, 11, 12, 18], ce_m64), (2, 2, [], [0, 2, 4, 7, 10, 8], [0, 0, 0, 3, 6, 8, 4, 14, 16, 11, 12, 18], ce_m64)]) (by decide +kernel) ce_p64 (ce_pc ce_p64 (ce_pc ce_p64 (ce_pc ce_p64 ce_pn)))
def ce_m163 : Nat → Nat → Int := ce_F 6 12 0x492048000201402008041010440008201201000041041000008209
theorem ce_p163 : rk_M 2 ce_m163 := ce_st (b1 := 2) (T := ce_m69) (rem := [(1, 1, 4), (5, 10, 5)]) (rows := [0, 2, 8, 4, 7, 11]) (cols := [8, 0, 4, 15, 2, 11, 12, 16, 6, 20, 0, 18]) (L := [(1, 2, [(4, 4, 0), (5, 8, 5)], [0, 6, 9, 2, 10, 5], [16, 0, 4, 9, 0, 7, 11, 23, 0, 12, 2, 18], ce_m51), (0, 2, [(5, 3, 2)], [0, 9, 6, 5, 3, 10], [0, 0, 7, 0, 8, 10, 20, 4, 3, 19, 15, 13], ce_m66), (3, 2, [(5, 9, 5)], [0, 7, 8, 3, 11, 4], [0, 0, 5, 0, 17, 12, 10, 22, 7, 0, 3, 19], ce_m51), (5, 2, [], [0, 7, 8, 3, 11, 4], [0, 0, 5, 0, 17, 0, 10, 22, 7, 13, 3, 19], ce_m51)]) (by decide +kernel) ce_p69 (ce_pc ce_p51 (ce_pc ce_p66 (ce_pc ce_p51 (ce_pc ce_p51 ce_pn))))
def ce_m164 : Nat → Nat → Int := ce_F 6 12 0x412080200081410040490000240240202008008049001000000249
theorem ce_p164 : rk_M 2 ce_m164 := ce_st (b1 := 2) (T := ce_m51) (rem := [(1, 0, 1), (1, 1, 2)]) (rows := [0, 6, 3, 10, 4, 8]) (cols := [0, 0, 18, 22, 4, 11, 14, 3, 12, 16, 7, 9]) (L := [(0, 2, [(5, 4, 1), (5, 9, 3)], [0, 4, 10, 3, 7, 9], [0, 17, 5, 3, 0, 10, 12, 14, 19, 0, 6, 8], ce_m67), (1, 2, [(5, 10, 2), (5, 11, 3)], [0, 4, 8, 11, 6, 3], [0, 0, 16, 9, 12, 10, 2, 15, 4, 6], ce_m51), (2, 2, [(5, 8, 3)], [0, 4, 8, 11, 6, 3], [0, 0, 0, 5, 12, 10, 2, 15, 0, 6, 17, 8], ce_m51), (3, 2, [], [0, 4, 8, 11, 6, 3], [0, 0, 0, 0, 12, 10, 2, 15, 4, 6, 17, 8], ce_m51)]) (by decide +kernel) ce_p51 (ce_pc ce_p67 (ce_pc ce_p51 (ce_pc ce_p51 (ce_pc ce_p51 ce_pn))))
def ce_m165 : Nat → Nat → Int := ce_F 6 12 0x482040200210410040048082008001209001000049001000000249
theorem ce_p165 : rk_M 2 ce_m165 := ce_st (b1 := 2) (T := ce_m51) (rem := [(1, 1, 3), (1, 2, 4), (1, 3, 5)]) (rows := [0, 10, 8, 3, 6, 4]) (cols := [22, 0, 0, 0, 8, 17, 6, 15, 13, 5, 3, 11]) (L := [(1, 2, [(4, 4, 0), (5, 9, 2), (5, 10, 3)], [0, 10, 2, 9, 5, 7], [8, 0, 13, 15, 0, 6, 17, 2, 4, 0, 0, 11], ce_m51), (2, 2, [(4, 5, 0), (5, 11, 3)], [0, 10, 2, 9, 5, 7], [6, 0, 0, 10, 8, 0, 17, 2, 4, 12, 14], ce_m51), (3, 2, [], [0, 6, 8, 3, 4, 10], [16, 0, 0, 0, 4, 9, 6, 13, 18, 3, 11, 14], ce_m113), (0, 2, [], [0, 10, 2, 9, 5, 7], [0, 0, 0, 0, 8, 6, 17, 2, 4, 12, 14, 11], ce_m51)]) (by decide +kernel) ce_p51 (ce_pc ce_p51 (ce_pc ce_p51 (ce_pc ce_p113 (ce_pc ce_p51 ce_pn))))
def ce_m166 : Nat → Nat → Int := ce_F 6 12 0x48229000021004044004800a001000048041001001208000200049
theorem ce_p166 : rk_M 2 ce_m166 := ce_st (b1 := 2) (T := ce_m70) (rem := [(1, 1, 1), (1, 7, 5)]) (rows := [0, 3, 5, 6, 8, 10]) (cols := [11, 0, 9, 7, 3, 15, 13, 0, 5, 16, 21, 19]) (L := [(1, 2, [(5, 8, 7)], [0, 4, 3, 7, 9, 10], [5, 0, 3, 12, 10, 7, 9, 17, 0, 19, 15, 21], ce_m67), (7, 2, [(4, 5, 0), (4, 6, 2)], [0, 7, 3, 5, 9, 10], [7, 0, 9, 15, 10, 0, 0, 0, 21, 13, 19, 23], ce_m51), (0, 2, [(5, 9, 2)], [0, 7, 3, 5, 9, 10], [0, 0, 12, 15, 10, 7, 9, 0, 21, 0, 19, 23], ce_m51), (2, 2, [], [0, 7, 3, 5, 9, 10], [0, 0, 0, 15, 10, 7, 9, 0, 21, 13, 19, 23], ce_m51)]) (by decide +kernel) ce_p70 (ce_pc ce_p67 (ce_pc ce_p51 (ce_pc ce_p51 (ce_pc ce_p51 ce_pn))))
def ce_m167 : Nat → Nat → Int := ce_F 6 12 0x211040040280208001041001048008200209000052200000000049
theorem ce_p167 : rk_M 2 ce_m167 := ce_st (b1 := 1) (T := ce_m49) (rem := [(4, 7, 0), (4, 8, 2)]) (rows := [0, 2, 4, 7, 9, 10]) (cols := [12, 14, 17, 6, 5, 3, 8, 0, 0, 10, 19, 21]) (L := [(0, 2, [(4, 10, 1)], [0, 2, 4, 7, 8, 11], [0, 17, 7, 5, 9, 2, 11, 12, 19, 14, 0, 20], ce_m71), (1, 1, [(5, 9, 2)], [0, 2, 4, 11, 7, 8], [0, 0, 13, 6, 9, 5, 2, 14, 20, 0, 16, 19], ce_m49), (2, 1, [], [0, 2, 4, 11, 7, 8], [0, 0, 0, 6, 9, 5, 2, 14, 20, 12, 16, 19], ce_m49)]) (by decide +kernel) ce_p49 (ce_pc ce_p71 (ce_pc ce_p49 (ce_pc ce_p49 ce_pn)))
def ce_m168 : Nat → Nat → Int := ce_F 6 12 0x88088008401400009208001200041001200000208280000040281
theorem ce_p168 : rk_M 2 ce_m168 := ce_st (b1 := 2) (T := ce_m51) (rem := [(1, 0, 4), (1, 2, 1), (1, 6, 5)]) (rows := [0, 2, 8, 10, 5, 6]) (cols := [0, 11, 0, 8, 22, 4, 0, 2, 13, 20, 15, 18]) (L := [(0, 2, [(5, 6, 1), (5, 7, 2)], [0, 5, 3, 7, 10, 8], [0, 20, 14, 3, 5, 9, 0, 0, 13, 17, 7, 19], ce_m63), (2, 1, [(4, 4, 3), (5, 6, 5)], [0, 5, 8, 11, 2, 6], [0, 4, 0, 20, 0, 15, 0, 7, 2, 16, 19, 9], ce_m49), (6, 2, [], [0, 4, 2, 6, 8, 10], [0, 20, 0, 2, 4, 14, 0, 8, 6, 18, 12, 16], ce_m63), (3, 1, [], [0, 5, 8, 11, 2, 6], [0, 4, 0, 0, 20, 15, 0, 7, 2, 16, 19, 9], ce_m49)]) (by decide +kernel) ce_p51 (ce_pc ce_p63 (ce_pc ce_p49 (ce_pc ce_p63 (ce_pc ce_p49 ce_pn))))
def ce_m169 : Nat → Nat → Int := ce_F 6 11 0x12481008009241001408248009048008240248040200009049
theorem ce_p169 : rk_M 2 ce_m169 := ce_st (b1 := 2) (T := ce_m72) (rem := [(1, 1, 2), (1, 2, 5)]) (rows := [0, 4, 2, 10, 8, 7]) (cols := [10, 0, 0, 2, 18, 15, 16, 4, 6, 12, 8]) (L := [(1, 2, [(4, 6, 0), (5, 10, 5)], [0, 2, 8, 4, 6, 11], [2, 0, 19, 6, 10, 14, 0, 8, 4, 16], ce_m73), (2, 2, [(1, 5, 3), (4, 8, 0)], [0, 2, 8, 4, 6, 11], [4, 0, 0, 6, 12, 0, 2, 8, 0, 16, 15], ce_m73), (4, 2, [(4, 3, 0), (5, 9, 5)], [0, 4, 2, 10, 8, 7], [2, 0, 0, 0, 0, 13, 16, 4, 6, 0, 8], ce_m72), (5, 2, [(4, 7, 0)], [0, 4, 2, 10, 8, 7], [4, 0, 0, 2, 0, 0, 16, 0, 6, 12, 8], ce_m72), (0, 2, [], [0, 4, 2, 10, 8, 7], [0, 0, 0, 2, 0, 0, 16, 4, 6, 12, 8], ce_m72)]) (by decide +kernel) ce_p72 (ce_pc ce_p73 (ce_pc ce_p73 (ce_pc ce_p72 (ce_pc ce_p72 (ce_pc ce_p72 ce_pn)))))
def ce_m170 : Nat → Nat → Int := ce_F 6 11 0x901044044140220820004125124008800004920800000024a
theorem ce_p170 : rk_M 2 ce_m170 := ce_st (b1 := 2) (T := ce_m60) (rem := [(4, 5, 2), (4, 10, 3)]) (rows := [0, 3, 8, 7, 4, 10]) (cols := [18, 10, 5, 14, 7, 0, 9, 3, 12, 20]) (L := [(0, 2, [(4, 6, 2), (4, 8, 3)], [0, 3, 6, 5, 8, 10], [0, 20, 11, 16, 5, 7, 0, 3, 0, 18, 9], ce_m65), (1, 2, [(4, 7, 2), (4, 9, 3)], [0, 4, 6, 2, 9, 10], [0, 0, 12, 18, 10, 2, 14, 0, 16, 0, 8], ce_m53), (2, 2, [(5, 4, 3)], [0, 4, 6, 2, 9, 10], [0, 0, 0, 11, 0, 2, 14, 12, 16, 18, 8], ce_m53), (3, 2, [], [0, 4, 6, 2, 9, 10], [0, 0, 0, 0, 10, 2, 14, 12, 16, 18, 8], ce_m53)]) (by decide +kernel) ce_p60 (ce_pc ce_p65 (ce_pc ce_p53 (ce_pc ce_p53 (ce_pc ce_p53 ce_pn))))
def ce_m171 : Nat → Nat → Int := ce_F 6 11 0x8050441052002048048049009408080200209200200000249
theorem ce_p171 : rk_M 2 ce_m171 := ce_st (b1 := 2) (T := ce_m52) (rem := [(1, 2, 4), (4, 5, 0), (4, 10, 1)]) (rows := [0, 8, 7, 4, 3, 11]) (cols := [10, 7, 0, 14, 8, 0, 18, 13, 2, 4]) (L := [(2, 2, [(4, 7, 1), (4, 8, 0)], [0, 4, 3, 8, 7, 11], [8, 11, 0, 16, 2, 12, 14, 0, 0, 4, 7], ce_m84), (0, 2, [(5, 4, 1), (5, 6, 3)], [0, 8, 7, 4, 3, 11], [0, 9, 0, 19, 0, 10, 0, 13, 2, 4, 7], ce_m52), (3, 2, [(5, 9, 1)], [0, 8, 7, 4, 3, 11], [0, 5, 0, 0, 8, 10, 18, 13, 2, 0, 7], ce_m52), (1, 2, [], [0, 8, 7, 4, 3, 11], [0, 0, 0, 0, 8, 10, 18, 13, 2, 4, 7], ce_m52)]) (by decide +kernel) ce_p52 (ce_pc ce_p84 (ce_pc ce_p52 (ce_pc ce_p52 (ce_pc ce_p52 ce_pn))))
def ce_m172 : Nat → Nat → Int := ce_F 6 11 0x9448088041048001002411040280401200048208200000249
theorem ce_p172 : rk_M 2 ce_m172 := ce_st (b1 := 2) (T := ce_m50) (rem := []) (rows := [0, 2, 9, 5, 6, 10]) (cols := [4, 7, 14, 19, 2, 8, 10, 12, 16, 23, 20]) (L := [(0, 2, [(3, 3, 1), (1, 4, 1), (5, 6, 3), (5, 8, 2)], [0, 2, 5, 0, 6, 8], [0, 3, 13, 7, 0, 8, 0, 4, 0, 11, 14], ce_m27), (1, 2, [(3, 3, 1), (1, 4, 1), (4, 7, 2), (5, 9, 3)], [0, 2, 5, 0, 6, 8], [0, 0, 4, 10, 0, 8, 6, 0, 12, 0, 14], ce_m27), (3, 2, [(3, 3, 1), (1, 4, 1)], [0, 2, 6, 0, 4, 8], [0, 0, 4, 0, 0, 8, 2, 6, 10, 14, 12], ce_m28), (2, 2, [(3, 3, 1), (1, 4, 1)], [0, 2, 5, 0, 6, 8], [0, 0, 0, 0, 0, 8, 6, 4, 12, 11, 14], ce_m27)]) (by decide +kernel) ce_p50 (ce_pc ce_p27 (ce_pc ce_p27 (ce_pc ce_p28 (ce_pc ce_p27 ce_pn))))
def ce_m173 : Nat → Nat → Int := ce_F 6 11 0x9291000012202200200451000202202040208209000208209
theorem ce_p173 : rk_M 2 ce_m173 := ce_st (b1 := 2) (T := ce_m88) (rem := [(1, 0, 2), (1, 1, 1)]) (rows := [0, 3, 4, 6, 8, 10]) (cols := [0, 0, 3, 14, 7, 10, 5, 18, 9, 12, 16]) (L := [(0, 2, [(4, 2, 1), (5, 9, 7), (4, 10, 5)], [0, 2, 5, 7, 11, 9], [0, 4, 0, 14, 2, 9, 6, 10, 12], ce_m140), (1, 2, [(5, 4, 3), (5, 6, 5), (5, 8, 7)], [0, 4, 10, 9, 3, 6], [0, 0, 14, 3, 0, 21, 0, 5, 0, 6, 16], ce_m52), (3, 2, [(4, 9, 5), (5, 10, 7)], [0, 4, 10, 9, 3, 6], [0, 0, 14, 0, 2, 6, 20, 17, 4], ce_m52), (7, 2, [], [0, 3, 4, 6, 8, 10], [0, 0, 3, 0, 5, 8, 7, 0, 11, 12, 14], ce_m137), (5, 2, [], [0, 4, 10, 9, 3, 6], [0, 0, 14, 0, 2, 0, 20, 0, 4, 6, 16], ce_m52)]) (by decide +kernel) ce_p88 (ce_pc ce_p140 (ce_pc ce_p52 (ce_pc ce_p52 (ce_pc ce_p137 (ce_pc ce_p52 ce_pn)))))
def ce_m174 : Nat → Nat → Int := ce_F 6 11 0x8410441008412048242010040041240040049200200000249
theorem ce_p174 : rk_M 2 ce_m174 := ce_st (b1 := 2) (T := ce_m76) (rem := [(1, 2, 4), (1, 3, 5)]) (rows := [0, 8, 4, 7, 11, 3]) (cols := [8, 15, 0, 0, 4, 16, 12, 18, 3, 11, 7]) (L := [(2, 2, [(4, 5, 0), (4, 10, 1)], [0, 3, 7, 8, 4, 10], [5, 18, 0, 15, 9, 0, 7, 3, 13, 10], ce_m52), (3, 2, [(4, 6, 0), (4, 9, 1)], [0, 2, 4, 11, 7, 9], [2, 13, 0, 0, 8, 4, 0, 6, 10, 0, 19], ce_m52), (0, 2, [(5, 4, 1)], [0, 2, 4, 11, 7, 9], [0, 9, 0, 0, 0, 4, 2, 6, 10, 13, 19], ce_m52), (1, 2, [], [0, 2, 4, 11, 7, 9], [0, 0, 0, 0, 8, 4, 2, 6, 10, 13, 19], ce_m52)]) (by decide +kernel) ce_p76 (ce_pc ce_p52 (ce_pc ce_p52 (ce_pc ce_p52 (ce_pc ce_p52 ce_pn))))
def ce_m175 : Nat → Nat → Int := ce_F 6 11 0x829004805100820804a008200041240200049001200000249
theorem ce_p175 : rk_M 2 ce_m175 := ce_st (b1 := 2) (T := ce_m52) (rem := [(1, 0, 1), (4, 5, 1), (4, 10, 3)]) (rows := [0, 3, 7, 8, 11, 4]) (cols := [0, 7, 10, 14, 17, 0, 5, 3, 20, 18]) (L := [(0, 2, [(5, 7, 2)], [0, 5, 8, 2, 10, 6], [0, 18, 2, 10, 4, 13, 7, 0, 8, 14, 16], ce_m91), (2, 2, [(5, 9, 3)], [0, 2, 4, 11, 8, 7], [0, 8, 0, 18, 14, 2, 4, 6, 20, 0, 17], ce_m52), (3, 2, [(4, 6, 1)], [0, 2, 4, 11, 8, 7], [0, 4, 0, 0, 14, 2, 0, 6, 20, 19, 17], ce_m52), (1, 2, [], [0, 2, 4, 11, 8, 7], [0, 0, 0, 0, 14, 2, 4, 6, 20, 19, 17], ce_m52)]) (by decide +kernel) ce_p52 (ce_pc ce_p91 (ce_pc ce_p52 (ce_pc ce_p52 (ce_pc ce_p52 ce_pn))))
def ce_m176 : Nat → Nat → Int := ce_F 6 11 0x11048041042410048041208040001409200241200200000249
theorem ce_p176 : rk_M 2 ce_m176 := ce_st (b1 := 2) (T := ce_m56) (rem := [(1, 0, 1)]) (rows := [0, 3, 6, 5, 8, 11]) (cols := [0, 13, 16, 18, 3, 5, 11, 7, 9, 15, 20]) (L := [(0, 2, [(5, 5, 2)], [0, 4, 3, 11, 9, 7], [0, 9, 3, 5, 14, 0, 7, 20, 10, 13, 16], ce_m52), (2, 2, [(4, 9, 1), (5, 10, 3)], [0, 4, 3, 11, 9, 7], [0, 13, 0, 17, 14, 2, 7, 20, 10], ce_m52), (3, 2, [], [0, 7, 2, 8, 10, 4], [0, 18, 0, 0, 17, 7, 2, 20, 13, 10, 15], ce_m52), (1, 2, [], [0, 4, 3, 11, 9, 7], [0, 0, 0, 0, 14, 2, 7, 20, 10, 13, 16], ce_m52)]) (by decide +kernel) ce_p56 (ce_pc ce_p52 (ce_pc ce_p52 (ce_pc ce_p52 (ce_pc ce_p52 ce_pn))))
def ce_m177 : Nat → Nat → Int := ce_F 6 11 0x8410441008488048240440040049040040001209200000249
theorem ce_p177 : rk_M 2 ce_m177 := ce_st (b1 := 2) (T := ce_m55) (rem := [(1, 3, 5)]) (rows := [0, 7, 5, 8, 10, 2]) (cols := [7, 12, 19, 0, 9, 15, 11, 17, 3, 20, 4]) (L := [(3, 2, [(4, 4, 0), (4, 5, 1)], [0, 2, 10, 8, 4, 7], [6, 2, 4, 0, 0, 0, 21, 15, 12, 10, 17], ce_m52), (0, 2, [(5, 6, 1), (5, 7, 2)], [0, 2, 4, 6, 10, 9], [0, 21, 15, 0, 2, 6, 0, 0, 10, 12, 16], ce_m52), (2, 2, [(4, 10, 1)], [0, 2, 4, 6, 10, 9], [0, 16, 0, 0, 2, 6, 20, 14, 10, 12], ce_m52), (1, 2, [], [0, 2, 4, 6, 10, 9], [0, 0, 0, 0, 2, 6, 20, 14, 10, 12, 16], ce_m52)]) (by decide +kernel) ce_p55 (ce_pc ce_p52 (ce_pc ce_p52 (ce_pc ce_p52 (ce_pc ce_p52 ce_pn))))
def ce_m178 : Nat → Nat → Int := ce_F 6 11 0x11208008240208209440090200041240040049001200000249
theorem ce_p178 : rk_M 2 ce_m178 := ce_st (b1 := 2) (T := ce_m55) (rem := [(1, 3, 4), (4, 7, 1), (4, 9, 2)]) (rows := [0, 8, 10, 5, 2, 7]) (cols := [12, 4, 7, 0, 16, 10, 15, 0, 19, 0, 8]) (L := [(3, 2, [(1, 1, 1), (4, 6, 0), (5, 10, 2)], [0, 2, 4, 11, 8, 6], [8, 0, 14, 0, 16, 10, 0, 4, 6, 18], ce_m55), (1, 2, [(4, 8, 0)], [0, 3, 5, 10, 9, 7], [7, 0, 12, 0, 17, 11, 9, 5, 0, 19, 14], ce_m55), (2, 2, [(4, 5, 0)], [0, 2, 4, 11, 8, 6], [10, 0, 0, 0, 16, 0, 8, 4, 6, 18, 15], ce_m55), (0, 2, [], [0, 2, 4, 11, 8, 6], [0, 0, 0, 0, 16, 10, 8, 4, 6, 18, 15], ce_m55)]) (by decide +kernel) ce_p55 (ce_pc ce_p55 (ce_pc ce_p55 (ce_pc ce_p55 (ce_pc ce_p55 ce_pn))))
def ce_m179 : Nat → Nat → Int := ce_F 6 11 0x1108104804209004804204820100a400200209200200000249
theorem ce_p179 : rk_M 2 ce_m179 := ce_st (b1 := 2) (T := ce_m80) (rem := [(1, 0, 1), (1, 3, 5)]) (rows := [0, 3, 6, 5, 10, 9]) (cols := [0, 18, 15, 0, 3, 5, 7, 12, 9, 11, 16]) (L := [(0, 2, [(5, 6, 1)], [0, 8, 3, 10, 5, 6], [0, 3, 21, 16, 18, 8, 0, 7, 10, 12, 5], ce_m52), (3, 2, [(4, 10, 1)], [0, 10, 3, 8, 7, 4], [0, 5, 17, 0, 18, 8, 6, 3, 12, 10], ce_m52), (1, 2, [(5, 7, 2)], [0, 8, 3, 10, 5, 6], [0, 0, 6, 0, 18, 8, 2, 0, 10, 12, 5], ce_m52), (2, 2, [], [0, 8, 3, 10, 5, 6], [0, 0, 0, 0, 18, 8, 2, 7, 10, 12, 5], ce_m52)]) (by decide +kernel) ce_p80 (ce_pc ce_p52 (ce_pc ce_p52 (ce_pc ce_p52 (ce_pc ce_p52 ce_pn))))
def ce_m180 : Nat → Nat → Int := ce_F 6 11 0x9480048042090200042240200201041200240201200000249
theorem ce_p180 : rk_M 2 ce_m180 := ce_st (b1 := 2) (T := ce_m57) (rem := [(1, 0, 1), (4, 4, 1), (4, 9, 2), (4, 10, 3)]) (rows := [0, 10, 2, 4, 7, 8]) (cols := [0, 8, 4, 13, 0, 10, 2, 15, 16]) (L := [(0, 2, [(1, 1, 2), (5, 8, 3)], [0, 3, 5, 6, 8, 10], [0, 0, 4, 8, 3, 10, 13, 7, 0, 15, 18], ce_m78), (1, 2, [(5, 7, 2)], [0, 2, 6, 5, 10, 9], [0, 0, 3, 11, 4, 13, 9, 0, 14, 7, 19], ce_m83), (3, 2, [(4, 6, 2)], [0, 10, 2, 4, 7, 8], [0, 0, 2, 0, 8, 10, 0, 15, 16, 4, 13], ce_m57), (2, 2, [], [0, 10, 2, 4, 7, 8], [0, 0, 0, 0, 8, 10, 2, 15, 16, 4, 13], ce_m57)]) (by decide +kernel) ce_p57 (ce_pc ce_p78 (ce_pc ce_p83 (ce_pc ce_p57 (ce_pc ce_p57 ce_pn))))
def ce_m181 : Nat → Nat → Int := ce_F 6 11 0x9281200090250200208001440200241040009208000200209
theorem ce_p181 : rk_M 2 ce_m181 := ce_st (b1 := 2) (T := ce_m87) (rem := [(1, 0, 2), (1, 1, 3)]) (rows := [0, 3, 5, 6, 10, 9]) (cols := [0, 0, 3, 12, 5, 7, 9, 18, 10, 15, 16]) (L := [(0, 2, [(5, 9, 7)], [0, 2, 10, 9, 4, 6], [0, 19, 8, 16, 6, 4, 2, 14, 10, 0, 13], ce_m78), (1, 2, [(1, 3, 4), (5, 10, 7)], [0, 2, 10, 9, 4, 6], [0, 0, 8, 0, 6, 4, 2, 12, 10, 15], ce_m78), (3, 2, [(5, 8, 7)], [0, 2, 10, 9, 4, 6], [0, 0, 8, 0, 6, 4, 2, 11, 0, 15, 13], ce_m78), (7, 2, [], [0, 2, 10, 9, 4, 6], [0, 0, 8, 0, 6, 4, 2, 0, 10, 15, 13], ce_m78)]) (by decide +kernel) ce_p87 (ce_pc ce_p78 (ce_pc ce_p78 (ce_pc ce_p78 (ce_pc ce_p78 ce_pn))))
def ce_m182 : Nat → Nat → Int := ce_F 6 11 0x920820024024820104200a202090001200001208200040209
theorem ce_p182 : rk_M 2 ce_m182 := ce_st (b1 := 2) (T := ce_m61) (rem := [(1, 1, 2)]) (rows := [0, 5, 3, 7, 8, 11]) (cols := [15, 0, 5, 16, 7, 11, 20, 2, 8, 19, 12]) (L := [(1, 2, [(4, 7, 3), (4, 10, 6)], [0, 7, 8, 4, 3, 10], [11, 0, 6, 3, 8, 5, 15, 0, 19, 12], ce_m83), (3, 2, [(4, 4, 0), (4, 9, 6)], [0, 11, 4, 8, 3, 7], [17, 0, 14, 0, 0, 9, 13, 5, 11, 0, 3], ce_m57), (6, 2, [(1, 0, 1)], [0, 11, 4, 8, 3, 7], [0, 0, 14, 0, 17, 9, 0, 5, 11, 13, 3], ce_m57), (0, 2, [], [0, 11, 4, 8, 3, 7], [0, 0, 14, 0, 17, 9, 0, 5, 11, 13, 3], ce_m57)]) (by decide +kernel) ce_p61 (ce_pc ce_p83 (ce_pc ce_p57 (ce_pc ce_p57 (ce_pc ce_p57 ce_pn))))
def ce_m183 : Nat → Nat → Int := ce_F 6 11 0x9049008041402240248010200040009240048201000008241
theorem ce_p183 : rk_M 2 ce_m183 := ce_st (b1 := 2) (T := ce_m94) (rem := [(1, 0, 2), (1, 5, 5)]) (rows := [0, 2, 4, 8, 10, 6]) (cols := [0, 2, 6, 14, 10, 0, 4, 8, 12, 16, 18]) (L := [(0, 2, [(1, 3, 4), (4, 10, 2)], [0, 9, 6, 2, 4, 10], [0, 12, 6, 0, 5, 19, 21, 15, 2, 8], ce_m57), (5, 2, [(4, 8, 2)], [0, 3, 5, 6, 8, 11], [0, 5, 7, 11, 3, 0, 15, 9, 0, 18, 12], ce_m100), (3, 2, [(4, 9, 2)], [0, 8, 7, 3, 5, 11], [0, 13, 9, 0, 4, 0, 20, 14, 3, 0, 7], ce_m57), (2, 2, [], [0, 8, 7, 3, 5, 11], [0, 13, 0, 0, 4, 0, 20, 14, 3, 9, 7], ce_m57)]) (by decide +kernel) ce_p94 (ce_pc ce_p57 (ce_pc ce_p100 (ce_pc ce_p57 (ce_pc ce_p57 ce_pn))))
def ce_m184 : Nat → Nat → Int := ce_F 6 11 0x1220a440040088081041008240048008240008209000008209
theorem ce_p184 : rk_M 2 ce_m184 := ce_st (b1 := 2) (T := ce_m113) (rem := [(4, 8, 3), (4, 10, 5)]) (rows := [0, 6, 5, 8, 3, 10]) (cols := [3, 9, 4, 15, 16, 11, 6, 13, 0, 18]) (L := [(0, 2, [(4, 2, 1), (5, 8, 5), (5, 10, 3)], [0, 4, 7, 8, 3, 10], [0, 4, 0, 8, 14, 18, 6, 13, 0, 20], ce_m57), (3, 2, [(4, 4, 1)], [0, 5, 3, 7, 8, 10], [0, 7, 5, 0, 0, 10, 9, 3, 13, 15, 16], ce_m133), (5, 2, [], [0, 6, 4, 8, 3, 10], [0, 2, 4, 0, 16, 0, 6, 12, 14, 18, 11], ce_m84), (1, 2, [], [0, 4, 7, 8, 3, 10], [0, 0, 4, 0, 14, 0, 6, 13, 19, 20, 9], ce_m57)]) (by decide +kernel) ce_p113 (ce_pc ce_p57 (ce_pc ce_p133 (ce_pc ce_p84 (ce_pc ce_p57 ce_pn))))
def ce_m185 : Nat → Nat → Int := ce_F 6 11 0xa200488040249001442001040050081200008240200008049
theorem ce_p185 : rk_M 2 ce_m185 := ce_st (b1 := 2) (T := ce_m82) (rem := [(1, 5, 4), (4, 6, 0), (4, 8, 2)]) (rows := [0, 3, 6, 10, 5, 8]) (cols := [3, 16, 10, 9, 5, 0, 0, 13, 0, 19, 15]) (L := [(5, 2, [(1, 0, 1), (5, 7, 1)], [0, 3, 4, 7, 9, 10], [0, 8, 10, 5, 3, 0, 7, 0, 14, 17, 13], ce_m125), (0, 2, [(5, 4, 2)], [0, 5, 2, 10, 7, 8], [0, 4, 2, 13, 0, 0, 11, 9, 6, 17, 19], ce_m74), (1, 2, [(5, 9, 2)], [0, 5, 2, 10, 7, 8], [0, 0, 16, 13, 3, 0, 11, 9, 6, 0, 19], ce_m74), (2, 2, [], [0, 5, 2, 10, 7, 8], [0, 0, 0, 13, 3, 0, 11, 9, 6, 17, 19], ce_m74)]) (by decide +kernel) ce_p82 (ce_pc ce_p125 (ce_pc ce_p74 (ce_pc ce_p74 (ce_pc ce_p74 ce_pn))))
def ce_m186 : Nat → Nat → Int := ce_F 6 11 0xa20a00804005144004100a201048001200008208200008209
theorem ce_p186 : rk_M 2 ce_m186 := ce_st (b1 := 2) (T := ce_m93) (rem := [(1, 0, 1), (1, 1, 2)]) (rows := [0, 2, 4, 6, 8, 10]) (cols := [0, 0, 2, 15, 4, 19, 6, 8, 10, 16, 12]) (L := [(0, 2, [(5, 4, 3), (5, 6, 5)], [0, 6, 8, 10, 2, 4], [0, 17, 8, 7, 0, 5, 0, 18, 10, 15, 2], ce_m52), (1, 2, [(5, 10, 5)], [0, 2, 10, 6, 4, 8], [0, 0, 4, 13, 2, 15, 6, 16, 18, 10], ce_m75), (3, 2, [(4, 9, 5)], [0, 6, 8, 10, 2, 4], [0, 0, 8, 0, 6, 15, 4, 18, 10, 0, 2], ce_m52), (5, 2, [], [0, 6, 8, 10, 2, 4], [0, 0, 8, 0, 6, 0, 4, 18, 10, 15, 2], ce_m52)]) (by decide +kernel) ce_p93 (ce_pc ce_p52 (ce_pc ce_p75 (ce_pc ce_p52 (ce_pc ce_p52 ce_pn))))
def ce_m187 : Nat → Nat → Int := ce_F 6 11 0x2202201080280009082208202080201048208240008208201
theorem ce_p187 : rk_M 2 ce_m187 := ce_st (b1 := 2) (T := ce_m67) (rem := [(1, 3, 1)]) (rows := [0, 3, 4, 11, 6, 9]) (cols := [10, 18, 16, 0, 9, 12, 7, 14, 3, 20, 5]) (L := [(3, 2, [(5, 7, 6), (5, 8, 5), (5, 9, 4), (5, 10, 0)], [0, 2, 5, 10, 7, 8], [5, 19, 17, 0, 8, 3, 6], ce_m67), (0, 2, [(5, 5, 1), (5, 7, 2)], [0, 10, 3, 5, 7, 9], [0, 9, 5, 0, 11, 0, 15, 0, 12, 6, 2], ce_m140), (5, 2, [(5, 9, 2)], [0, 10, 3, 5, 8, 6], [0, 8, 5, 0, 15, 0, 11, 6, 2, 0, 12], ce_m140), (7, 2, [(5, 9, 1)], [0, 2, 5, 10, 7, 8], [0, 19, 17, 0, 8, 0, 6, 0, 2, 0, 4], ce_m67), (9, 2, [], [0, 2, 5, 10, 7, 8], [0, 19, 17, 0, 8, 0, 6, 0, 2, 0, 4], ce_m67)]) (by decide +kernel) ce_p67 (ce_pc ce_p67 (ce_pc ce_p140 (ce_pc ce_p140 (ce_pc ce_p67 (ce_pc ce_p67 ce_pn)))))
def ce_m188 : Nat → Nat → Int := ce_F 6 11 0x1120a008089440008201009208010202200200208200040209
theorem ce_p188 : rk_M 2 ce_m188 := ce_st (b1 := 2) (T := ce_m82) (rem := [(1, 3, 3), (4, 4, 0), (4, 9, 6)]) (rows := [0, 3, 6, 5, 10, 9]) (cols := [3, 16, 5, 0, 0, 10, 19, 13, 9, 0, 15]) (L := [(3, 2, [(1, 0, 1), (5, 7, 1), (5, 10, 6)], [0, 4, 3, 6, 11, 8], [0, 9, 2, 0, 10, 7, 19, 0, 12, 16], ce_m74), (0, 2, [], [0, 4, 3, 6, 11, 8], [0, 5, 2, 0, 10, 7, 15, 8, 12, 16, 18], ce_m74), (1, 2, [(5, 6, 5)], [0, 4, 3, 6, 11, 8], [0, 0, 2, 0, 10, 7, 0, 8, 12, 16, 18], ce_m74), (6, 2, [], [0, 4, 3, 6, 11, 8], [0, 0, 2, 0, 10, 7, 0, 8, 12, 16, 18], ce_m74)]) (by decide +kernel) ce_p82 (ce_pc ce_p74 (ce_pc ce_p74 (ce_pc ce_p74 (ce_pc ce_p74 ce_pn))))
def ce_m189 : Nat → Nat → Int := ce_F 6 11 0x12490040002049040209080040008049201009008200000249
theorem ce_p189 : rk_M 2 ce_m189 := ce_st (b1 := 2) (T := ce_m57) (rem := [(1, 0, 1)]) (rows := [0, 3, 7, 8, 5, 10]) (cols := [0, 13, 3, 19, 11, 5, 7, 17, 14, 9, 20]) (L := [(0, 2, [(4, 4, 2)], [0, 7, 2, 8, 4, 10], [0, 4, 6, 2, 0, 8, 14, 10, 13, 17, 18], ce_m96), (1, 2, [(4, 5, 2), (5, 10, 3)], [0, 3, 7, 8, 5, 10], [0, 0, 5, 21, 11, 0, 7, 17, 14, 9], ce_m57), (3, 2, [(4, 6, 2)], [0, 3, 7, 8, 5, 10], [0, 0, 7, 0, 11, 5, 0, 17, 14, 9, 20], ce_m57), (2, 2, [], [0, 3, 7, 8, 5, 10], [0, 0, 0, 0, 11, 5, 7, 17, 14, 9, 20], ce_m57)]) (by decide +kernel) ce_p57 (ce_pc ce_p96 (ce_pc ce_p57 (ce_pc ce_p57 (ce_pc ce_p57 ce_pn))))
def ce_m190 : Nat → Nat → Int := ce_F 6 11 0x12412008048442008040211040001488200241200200000049
theorem ce_p190 : rk_M 2 ce_m190 := ce_st (b1 := 2) (T := ce_m81) (rem := [(1, 0, 1), (1, 2, 5)]) (rows := [0, 3, 6, 8, 10, 4]) (cols := [0, 16, 0, 10, 7, 5, 13, 9, 3, 15, 19]) (L := [(0, 2, [(5, 4, 1), (5, 8, 2)], [0, 5, 2, 8, 10, 6], [0, 10, 6, 4, 0, 9, 12, 17, 0, 15, 19], ce_m55), (2, 2, [(4, 6, 1)], [0, 5, 2, 8, 10, 6], [0, 12, 0, 4, 11, 9, 0, 17, 7, 15, 19], ce_m55), (1, 2, [], [0, 5, 2, 8, 10, 6], [0, 0, 0, 4, 11, 9, 12, 17, 7, 15, 19], ce_m55)]) (by decide +kernel) ce_p81 (ce_pc ce_p55 (ce_pc ce_p55 (ce_pc ce_p55 ce_pn)))
def ce_m191 : Nat → Nat → Int := ce_F 6 11 0x9088408041048201050080240008048240001240200040049
theorem ce_p191 : rk_M 2 ce_m191 := ce_st (b1 := 2) (T := ce_m51) (rem := [(4, 3, 0), (4, 9, 2), (4, 10, 6)]) (rows := [0, 10, 2, 6, 8, 5]) (cols := [8, 4, 11, 0, 6, 17, 13, 2, 15]) (L := [(1, 2, [(4, 5, 0), (5, 7, 2)], [0, 2, 6, 9, 4, 11], [2, 0, 13, 4, 6, 0, 20, 0, 10, 19, 14], ce_m52), (2, 2, [(4, 8, 6)], [0, 2, 6, 9, 4, 11], [8, 0, 0, 4, 6, 2, 10, 12, 0, 19, 14], ce_m52), (6, 2, [(4, 4, 0)], [0, 10, 8, 5, 2, 6], [17, 0, 0, 8, 0, 6, 0, 15, 2, 11, 4], ce_m51), (0, 2, [], [0, 10, 8, 5, 2, 6], [0, 0, 0, 8, 17, 6, 0, 15, 2, 11, 4], ce_m51)]) (by decide +kernel) ce_p51 (ce_pc ce_p52 (ce_pc ce_p52 (ce_pc ce_p51 (ce_pc ce_p51 ce_pn))))
def ce_m192 : Nat → Nat → Int := ce_F 6 11 0xa009200209410200411010040240009040001208200040209
theorem ce_p192 : rk_M 2 ce_m192 := ce_st (b1 := 2) (T := ce_m57) (rem := [(1, 1, 3), (1, 6, 5)]) (rows := [0, 2, 10, 7, 9, 4]) (cols := [6, 0, 8, 21, 2, 4, 0, 13, 16, 15, 10]) (L := [(1, 2, [(4, 8, 3), (4, 10, 6)], [0, 2, 6, 10, 5, 8], [10, 0, 4, 9, 14, 2, 18, 12, 0, 7], ce_m83), (6, 2, [(4, 2, 0), (4, 9, 3)], [0, 11, 3, 6, 5, 8], [9, 0, 0, 5, 17, 14, 0, 10, 3, 0, 13], ce_m57), (3, 2, [(4, 5, 0)], [0, 11, 3, 6, 5, 8], [14, 0, 9, 0, 17, 0, 0, 10, 3, 5, 13], ce_m57), (0, 2, [], [0, 11, 3, 6, 5, 8], [0, 0, 9, 0, 17, 14, 0, 10, 3, 5, 13], ce_m57)]) (by decide +kernel) ce_p57 (ce_pc ce_p83 (ce_pc ce_p57 (ce_pc ce_p57 (ce_pc ce_p57 ce_pn))))
def ce_m193 : Nat → Nat → Int := ce_F 6 11 0xa051200041081080090042040240048040048048000009009
theorem ce_p193 : rk_M 2 ce_m193 := ce_st (b1 := 2) (T := ce_m57) (rem := [(1, 0, 2), (1, 1, 3)]) (rows := [0, 7, 5, 2, 9, 10]) (cols := [0, 0, 13, 3, 15, 8, 17, 19, 5, 7, 21]) (L := [(0, 2, [(3, 3, 2), (1, 1, 2), (5, 9, 5), (4, 10, 4)], [0, 2, 4, 0, 7, 9], [0, 0, 6, 4, 17, 11, 2, 8, 12], ce_m18), (1, 2, [(3, 3, 2), (1, 5, 5)], [0, 3, 5, 0, 6, 8], [0, 0, 7, 5, 15, 0, 3, 9, 13, 11, 16], ce_m18), (5, 2, [(3, 3, 2), (4, 8, 4)], [0, 2, 4, 0, 7, 9], [0, 0, 6, 4, 12, 0, 2, 8, 0, 10, 17], ce_m18), (4, 2, [(3, 3, 2)], [0, 2, 4, 0, 7, 9], [0, 0, 6, 4, 0, 0, 2, 8, 12, 10, 17], ce_m18)]) (by decide +kernel) ce_p57 (ce_pc ce_p18 (ce_pc ce_p18 (ce_pc ce_p18 (ce_pc ce_p18 ce_pn))))
def ce_m194 : Nat → Nat → Int := ce_F 6 11 0x9009200281410200091010040040049040001208200040209
theorem ce_p194 : rk_M 2 ce_m194 := ce_st (b1 := 2) (T := ce_m103) (rem := [(1, 1, 3), (1, 6, 5)]) (rows := [0, 4, 8, 3, 10, 6]) (cols := [12, 0, 8, 18, 2, 14, 0, 7, 10, 4, 16]) (L := [(1, 2, [(4, 4, 0), (4, 8, 3), (4, 9, 6)], [0, 9, 3, 4, 7, 11], [11, 0, 5, 9, 0, 14, 17, 6, 0, 0, 18], ce_m55), (6, 2, [(4, 2, 0)], [0, 2, 4, 7, 10, 8], [2, 0, 0, 14, 4, 8, 0, 17, 12, 10, 18], ce_m82), (3, 2, [(4, 5, 0)], [0, 9, 3, 4, 7, 11], [14, 0, 5, 0, 11, 0, 0, 6, 9, 17, 18], ce_m55), (0, 2, [], [0, 9, 3, 4, 7, 11], [0, 0, 5, 0, 11, 14, 0, 6, 9, 17, 18], ce_m55)]) (by decide +kernel) ce_p103 (ce_pc ce_p55 (ce_pc ce_p82 (ce_pc ce_p55 (ce_pc ce_p55 ce_pn))))
def ce_m195 : Nat → Nat → Int := ce_F 6 11 0x9291000009089000240041040040241040048048000009009
theorem ce_p195 : rk_M 2 ce_m195 := ce_st (b1 := 2) (T := ce_m102) (rem := [(1, 0, 2), (1, 1, 3)]) (rows := [0, 2, 4, 6, 8, 10]) (cols := [0, 0, 2, 4, 8, 6, 10, 16, 12, 14, 18]) (L := [(0, 2, [(1, 4, 4), (4, 9, 5)], [0, 7, 4, 8, 2, 10], [0, 9, 10, 15, 0, 6, 3, 17, 4, 0, 18], ce_m105), (1, 2, [(4, 8, 5)], [0, 4, 2, 11, 6, 8], [0, 0, 2, 14, 6, 4, 8, 12, 0, 16, 18], ce_m113), (4, 2, [(4, 10, 5)], [0, 10, 2, 4, 6, 8], [0, 0, 10, 14, 0, 12, 17, 19, 4, 8], ce_m84), (5, 2, [], [0, 10, 2, 4, 6, 8], [0, 0, 10, 14, 0, 0, 17, 19, 4, 8, 12], ce_m84)]) (by decide +kernel) ce_p102 (ce_pc ce_p105 (ce_pc ce_p113 (ce_pc ce_p84 (ce_pc ce_p84 ce_pn))))
def ce_m196 : Nat → Nat → Int := ce_F 6 11 0x9241008240088448080052040080448000048040200000049
theorem ce_p196 : rk_M 2 ce_m196 := ce_st (b1 := 2) (T := ce_m54) (rem := [(4, 7, 0), (4, 10, 2)]) (rows := [0, 5, 3, 6, 8, 10]) (cols := [11, 16, 20, 5, 3, 12, 7, 0, 8, 19]) (L := [(0, 2, [(5, 6, 2)], [0, 5, 3, 6, 8, 10], [0, 14, 6, 5, 3, 12, 0, 11, 8, 19, 20], ce_m54), (1, 2, [(4, 9, 2)], [0, 5, 3, 6, 8, 10], [0, 0, 19, 5, 3, 12, 7, 11, 8, 0, 20], ce_m54), (2, 2, [], [0, 5, 3, 6, 8, 10], [0, 0, 0, 5, 3, 12, 7, 11, 8, 19, 20], ce_m54)]) (by decide +kernel) ce_p54 (ce_pc ce_p54 (ce_pc ce_p54 (ce_pc ce_p54 ce_pn)))
def ce_m197 : Nat → Nat → Int := ce_F 6 11 0x12409200048402008048001208048009040008240200008049
theorem ce_p197 : rk_M 2 ce_m197 := ce_st (b1 := 2) (T := ce_m110) (rem := [(1, 1, 4), (4, 3, 0), (1, 5, 5)]) (rows := [0, 6, 4, 10, 3, 8]) (cols := [6, 0, 10, 0, 2, 0, 12, 4, 18, 17, 9]) (L := [(1, 2, [(5, 10, 5)], [0, 3, 9, 7, 10, 5], [7, 0, 15, 5, 9, 17, 3, 19, 10, 12], ce_m77), (5, 2, [(4, 8, 2)], [0, 9, 3, 7, 4, 10], [7, 0, 9, 5, 13, 0, 19, 3, 0, 10, 14], ce_m95), (2, 2, [(1, 0, 1)], [0, 7, 3, 5, 10, 8], [0, 0, 0, 3, 17, 0, 13, 9, 5, 15, 21], ce_m57), (0, 2, [], [0, 7, 3, 5, 10, 8], [0, 0, 0, 3, 17, 0, 13, 9, 5, 15, 21], ce_m57)]) (by decide +kernel) ce_p110 (ce_pc ce_p77 (ce_pc ce_p95 (ce_pc ce_p57 (ce_pc ce_p57 ce_pn))))
def ce_m198 : Nat → Nat → Int := ce_F 6 11 0x9411200042408040041008048048048040001240200040049
theorem ce_p198 : rk_M 2 ce_m198 := ce_st (b1 := 2) (T := ce_m90) (rem := [(1, 1, 3), (1, 2, 4), (1, 6, 5)]) (rows := [0, 8, 6, 2, 11, 4]) (cols := [4, 0, 0, 12, 8, 18, 0, 6, 17, 2, 10]) (L := [(1, 2, [(4, 3, 0), (5, 9, 6)], [0, 3, 5, 7, 10, 9], [3, 0, 16, 0, 5, 9, 10, 13, 15, 0, 19], ce_m82), (2, 2, [(5, 10, 6)], [0, 4, 6, 2, 11, 8], [4, 0, 0, 10, 2, 12, 17, 8, 18, 6], ce_m74), (6, 2, [(4, 4, 0)], [0, 4, 6, 2, 11, 8], [2, 0, 0, 10, 0, 12, 0, 8, 18, 6, 16], ce_m74), (0, 2, [], [0, 4, 6, 2, 11, 8], [0, 0, 0, 10, 2, 12, 0, 8, 18, 6, 16], ce_m74)]) (by decide +kernel) ce_p90 (ce_pc ce_p82 (ce_pc ce_p74 (ce_pc ce_p74 (ce_pc ce_p74 ce_pn))))
def ce_m199 : Nat → Nat → Int := ce_F 6 11 0xa208208051010440052040040048048040009240000000049
theorem ce_p199 : rk_M 2 ce_m199 := ce_st (b1 := 2) (T := ce_m83) (rem := [(1, 0, 2), (1, 1, 3), (4, 10, 2)]) (rows := [0, 5, 6, 3, 8, 11]) (cols := [0, 0, 18, 7, 9, 3, 13, 4, 10, 15]) (L := [(0, 2, [(5, 7, 1)], [0, 5, 6, 3, 8, 11], [0, 5, 16, 7, 9, 3, 13, 0, 10, 15, 18], ce_m83), (1, 2, [(5, 9, 2)], [0, 5, 6, 3, 8, 11], [0, 0, 14, 7, 9, 3, 13, 4, 10, 0, 18], ce_m83), (2, 2, [], [0, 5, 6, 3, 8, 11], [0, 0, 0, 7, 9, 3, 13, 4, 10, 15, 18], ce_m83)]) (by decide +kernel) ce_p83 (ce_pc ce_p83 (ce_pc ce_p83 (ce_pc ce_p83 ce_pn)))
def ce_m200 : Nat → Nat → Int := ce_F 6 11 0x9480009040481008042080240009208040200241200000049
theorem ce_p200 : rk_M 2 ce_m200 := ce_st (b1 := 2) (T := ce_m63) (rem := [(4, 3, 0), (4, 9, 2)]) (rows := [0, 2, 8, 4, 6, 10]) (cols := [6, 2, 14, 0, 4, 9, 17, 11, 12, 0, 18]) (L := [(0, 2, [(5, 7, 1)], [0, 2, 4, 9, 6, 11], [0, 15, 7, 2, 4, 12, 10, 0, 8, 21, 18], ce_m60), (2, 2, [(4, 4, 1)], [0, 8, 4, 3, 11, 7], [0, 22, 0, 6, 0, 2, 18, 10, 8, 5, 21], ce_m50), (1, 2, [], [0, 8, 4, 3, 11, 7], [0, 0, 0, 6, 22, 2, 18, 10, 8, 5, 21], ce_m50)]) (by decide +kernel) ce_p63 (ce_pc ce_p60 (ce_pc ce_p50 (ce_pc ce_p50 ce_pn)))
def ce_m201 : Nat → Nat → Int := ce_F 6 11 0x9092200042081040048082040008011200009040200001049
theorem ce_p201 : rk_M 2 ce_m201 := ce_st (b1 := 2) (T := ce_m67) (rem := [(1, 0, 1), (4, 10, 4)]) (rows := [0, 3, 8, 4, 10, 6]) (cols := [0, 12, 20, 3, 14, 5, 7, 19, 16, 10]) (L := [(0, 2, [(5, 3, 1), (5, 6, 4)], [0, 3, 10, 6, 8, 4], [0, 6, 8, 0, 2, 5, 0, 17, 18, 10, 12], ce_m67), (1, 2, [(5, 8, 2)], [0, 3, 6, 10, 4, 8], [0, 0, 17, 7, 8, 5, 3, 15, 0, 18, 10], ce_m98), (2, 2, [(5, 7, 4)], [0, 3, 4, 6, 11, 8], [0, 0, 0, 5, 11, 3, 13, 0, 18, 16, 20], ce_m61), (4, 2, [], [0, 3, 4, 6, 11, 8], [0, 0, 0, 5, 0, 3, 13, 10, 18, 16, 20], ce_m61)]) (by decide +kernel) ce_p67 (ce_pc ce_p67 (ce_pc ce_p98 (ce_pc ce_p61 (ce_pc ce_p61 ce_pn))))
def ce_m202 : Nat → Nat → Int := ce_F 6 11 0x1108804804108a000048040240008050200008048200008049
theorem ce_p202 : rk_M 2 ce_m202 := ce_st (b1 := 2) (T := ce_m114) (rem := [(1, 0, 1), (4, 8, 5)]) (rows := [0, 2, 5, 6, 9, 10]) (cols := [0, 11, 2, 4, 9, 12, 6, 15, 0, 16, 19]) (L := [(0, 2, [(4, 9, 2)], [0, 3, 10, 8, 4, 7], [0, 8, 19, 7, 17, 2, 5, 14, 12, 0, 10], ce_m67), (1, 2, [(4, 3, 2), (5, 5, 4)], [0, 2, 5, 6, 8, 10], [0, 0, 12, 0, 7, 0, 14, 19, 8, 20, 22], ce_m50), (5, 2, [(4, 6, 2)], [0, 2, 5, 6, 8, 10], [0, 0, 14, 12, 7, 0, 0, 19, 8, 20, 22], ce_m50), (2, 2, [], [0, 2, 5, 6, 8, 10], [0, 0, 0, 12, 7, 0, 14, 19, 8, 20, 22], ce_m50)]) (by decide +kernel) ce_p114 (ce_pc ce_p67 (ce_pc ce_p50 (ce_pc ce_p50 (ce_pc ce_p50 ce_pn))))
def ce_m203 : Nat → Nat → Int := ce_F 6 11 0x848a20005044020004008840804000a040041009000041009
theorem ce_p203 : rk_M 2 ce_m203 := ce_st (b1 := 2) (T := ce_m67) (rem := [(1, 1, 1), (4, 10, 6)]) (rows := [0, 3, 8, 4, 10, 6]) (cols := [12, 0, 3, 20, 10, 5, 14, 7, 19, 16]) (L := [(1, 2, [(5, 2, 0), (5, 5, 4), (5, 7, 6)], [0, 11, 7, 8, 4, 2], [17, 0, 0, 10, 8, 0, 6, 0, 5, 13, 2], ce_m51), (0, 2, [(5, 8, 4)], [0, 3, 10, 6, 8, 4], [0, 0, 7, 18, 14, 5, 20, 3, 0, 16, 10], ce_m52), (4, 2, [(5, 9, 6)], [0, 11, 7, 8, 4, 2], [0, 0, 16, 10, 0, 9, 12, 7, 5, 0, 2], ce_m51), (6, 2, [], [0, 11, 7, 8, 4, 2], [0, 0, 16, 10, 0, 9, 0, 7, 5, 13, 2], ce_m51)]) (by decide +kernel) ce_p67 (ce_pc ce_p51 (ce_pc ce_p52 (ce_pc ce_p51 (ce_pc ce_p51 ce_pn))))
def ce_m204 : Nat → Nat → Int := ce_F 6 11 0xa21100004008a200041200240048200240008209000008209
theorem ce_p204 : rk_M 2 ce_m204 := ce_st (b1 := 2) (T := ce_m55) (rem := [(1, 0, 2), (1, 3, 4)]) (rows := [0, 2, 6, 4, 9, 11]) (cols := [0, 8, 2, 0, 4, 14, 10, 6, 18, 16, 21]) (L := [(0, 2, [(4, 2, 1), (4, 10, 5)], [0, 2, 8, 4, 7, 11], [0, 2, 0, 9, 4, 21, 10, 6, 22, 18], ce_m50), (3, 2, [(4, 8, 5)], [0, 8, 2, 6, 5, 10], [0, 4, 16, 0, 6, 8, 14, 2, 0, 18, 11], ce_m54), (1, 2, [(5, 6, 5)], [0, 2, 8, 4, 7, 11], [0, 0, 2, 0, 4, 11, 0, 6, 22, 18, 21], ce_m50), (5, 2, [], [0, 2, 8, 4, 7, 11], [0, 0, 2, 0, 4, 0, 10, 6, 22, 18, 21], ce_m50)]) (by decide +kernel) ce_p55 (ce_pc ce_p50 (ce_pc ce_p54 (ce_pc ce_p50 (ce_pc ce_p50 ce_pn))))
def ce_m205 : Nat → Nat → Int := ce_F 6 11 0x11048009041089000048042200008048200008009200008049
theorem ce_p205 : rk_M 2 ce_m205 := ce_st (b1 := 2) (T := ce_m114) (rem := [(1, 0, 1), (4, 8, 5)]) (rows := [0, 2, 4, 6, 9, 10]) (cols := [0, 4, 2, 10, 8, 12, 6, 14, 0, 16, 19]) (L := [(0, 2, [(4, 7, 1), (4, 9, 2)], [0, 3, 6, 4, 10, 9], [0, 14, 12, 11, 20, 6, 9, 0, 18, 0, 22], ce_m51), (5, 2, [(4, 6, 2)], [0, 3, 7, 4, 8, 11], [0, 5, 7, 9, 15, 0, 0, 11, 2, 12, 16], ce_m135), (1, 1, [(0, 1, 6), (5, 3, 2), (5, 10, 6)], [0, 0, 2, 5, 6, 9], [0, 0, 7, 0, 2, 0, 5, 10, 13, 9], ce_m13), (2, 1, [(0, 1, 6), (5, 10, 6)], [0, 0, 2, 5, 6, 9], [0, 0, 0, 6, 2, 0, 5, 10, 13, 9], ce_m13)]) (by decide +kernel) ce_p114 (ce_pc ce_p51 (ce_pc ce_p135 (ce_pc ce_p13 (ce_pc ce_p13 ce_pn))))
def ce_m206 : Nat → Nat → Int := ce_F 6 11 0x900808804100a001041240040049200200008209000008209
theorem ce_p206 : rk_M 2 ce_m206 := ce_st (b1 := 2) (T := ce_m112) (rem := [(1, 0, 4), (1, 3, 5)]) (rows := [0, 4, 10, 8, 6, 2]) (cols := [0, 14, 2, 0, 6, 16, 8, 18, 12, 10, 4]) (L := [(0, 2, [(4, 7, 5), (5, 10, 3)], [0, 6, 10, 4, 3, 9], [0, 2, 16, 6, 4, 14, 10, 0, 13, 8], ce_m63), (3, 2, [(4, 6, 1)], [0, 2, 4, 8, 11, 6], [0, 4, 2, 0, 8, 14, 0, 6, 10, 16, 18], ce_m54), (1, 2, [(5, 5, 4)], [0, 10, 6, 2, 8, 4], [0, 0, 18, 0, 23, 0, 10, 4, 8, 2, 6], ce_m50), (5, 2, [], [0, 10, 6, 2, 8, 4], [0, 0, 18, 0, 23, 0, 10, 4, 8, 2, 6], ce_m50)]) (by decide +kernel) ce_p112 (ce_pc ce_p63 (ce_pc ce_p54 (ce_pc ce_p50 (ce_pc ce_p50 ce_pn))))
def ce_m207 : Nat → Nat → Int := ce_F 6 11 0x1025200804800900804004a040040041200040048200048009
theorem ce_p207 : rk_M 2 ce_m207 := ce_st (b1 := 2) (T := ce_m58) (rem := [(1, 0, 1), (4, 4, 1), (1, 6, 5)]) (rows := [0, 2, 4, 10, 6, 8]) (cols := [0, 6, 2, 10, 0, 21, 0, 8, 12, 18, 17]) (L := [(0, 2, [(5, 7, 6)], [0, 8, 2, 6, 10, 4], [0, 8, 4, 17, 6, 11, 13, 0, 2, 18, 15], ce_m53), (6, 2, [(4, 9, 5)], [0, 2, 6, 5, 11, 8], [0, 13, 4, 2, 11, 15, 0, 8, 16, 0, 21], ce_m56), (1, 2, [(5, 8, 5)], [0, 2, 10, 7, 9, 4], [0, 0, 12, 4, 17, 19, 0, 2, 0, 9, 7], ce_m50), (5, 2, [], [0, 2, 10, 7, 9, 4], [0, 0, 12, 4, 17, 0, 0, 2, 18, 9, 7], ce_m50)]) (by decide +kernel) ce_p58 (ce_pc ce_p53 (ce_pc ce_p56 (ce_pc ce_p50 (ce_pc ce_p50 ce_pn))))
def ce_m208 : Nat → Nat → Int := ce_F 6 11 0xa041240041082240048010200009040200001048200000249
theorem ce_p208 : rk_M 2 ce_m208 := ce_st (b1 := 2) (T := ce_m107) (rem := [(1, 0, 1), (1, 1, 2)]) (rows := [0, 2, 5, 6, 8, 11]) (cols := [0, 0, 2, 12, 5, 6, 9, 11, 14, 16, 18]) (L := [(0, 2, [(4, 8, 2), (4, 10, 3)], [0, 2, 7, 4, 8, 10], [0, 3, 6, 20, 15, 8, 17, 19, 0, 10], ce_m54), (1, 2, [], [0, 4, 9, 2, 6, 11], [0, 0, 4, 14, 13, 10, 17, 21, 2, 8, 18], ce_m54), (2, 2, [(0, 1, 5), (1, 5, 5), (5, 9, 3)], [0, 0, 5, 9, 2, 6], [0, 0, 0, 12, 5, 0, 9, 17, 14, 0, 2], ce_m15), (3, 2, [(0, 1, 5), (1, 5, 5)], [0, 0, 5, 9, 2, 6], [0, 0, 0, 0, 5, 0, 9, 17, 14, 13, 2], ce_m15)]) (by decide +kernel) ce_p107 (ce_pc ce_p54 (ce_pc ce_p54 (ce_pc ce_p15 (ce_pc ce_p15 ce_pn))))
def ce_m209 : Nat → Nat → Int := ce_F 6 11 0xa480201040248200041210200048208040000241200000049
theorem ce_p209 : rk_M 2 ce_m209 := ce_st (b1 := 2) (T := ce_m66) (rem := [(1, 2, 3)]) (rows := [0, 2, 6, 5, 9, 10]) (cols := [4, 12, 0, 8, 2, 16, 7, 11, 19, 15, 20]) (L := [(2, 2, [(4, 4, 1)], [0, 2, 4, 7, 8, 10], [4, 6, 0, 2, 0, 10, 17, 20, 14, 13, 18], ce_m52), (0, 2, [(5, 8, 1)], [0, 2, 4, 7, 8, 10], [0, 15, 0, 2, 6, 10, 17, 20, 0, 13, 18], ce_m52), (1, 2, [], [0, 2, 4, 7, 8, 10], [0, 0, 0, 2, 6, 10, 17, 20, 14, 13, 18], ce_m52)]) (by decide +kernel) ce_p66 (ce_pc ce_p52 (ce_pc ce_p52 (ce_pc ce_p52 ce_pn)))
def ce_m210 : Nat → Nat → Int := ce_F 6 11 0x11048041041088040048010240008248000008041200000049
theorem ce_p210 : rk_M 2 ce_m210 := ce_st (b1 := 2) (T := ce_m114) (rem := [(1, 0, 1), (4, 8, 2)]) (rows := [0, 2, 4, 6, 9, 10]) (cols := [0, 2, 12, 4, 10, 8, 6, 14, 0, 16, 19]) (L := [(0, 2, [(4, 9, 1)], [0, 3, 11, 8, 4, 7], [0, 19, 2, 7, 21, 16, 5, 15, 12, 0, 10], ce_m67), (2, 2, [(4, 6, 1)], [0, 2, 4, 6, 9, 10], [0, 8, 0, 6, 10, 12, 0, 18, 14, 20, 23], ce_m51), (1, 2, [], [0, 2, 4, 6, 9, 10], [0, 0, 0, 6, 10, 12, 8, 18, 14, 20, 23], ce_m51)]) (by decide +kernel) ce_p114 (ce_pc ce_p67 (ce_pc ce_p51 (ce_pc ce_p51 ce_pn)))
def ce_m211 : Nat → Nat → Int := ce_F 6 11 0x8290009050090040040208048040288000048040200000049
theorem ce_p211 : rk_M 2 ce_m211 := ce_st (b1 := 2) (T := ce_m71) (rem := [(4, 10, 2)]) (rows := [0, 4, 2, 8, 7, 11]) (cols := [12, 20, 19, 5, 2, 8, 6, 14, 11, 16]) (L := [(0, 2, [(5, 6, 2), (5, 7, 1)], [0, 2, 10, 4, 9, 7], [0, 3, 5, 8, 10, 20, 0, 0, 19, 6, 17], ce_m54), (1, 2, [(5, 9, 2)], [0, 2, 10, 4, 9, 7], [0, 0, 7, 8, 10, 20, 4, 2, 19, 0, 17], ce_m54), (2, 2, [], [0, 2, 10, 4, 9, 7], [0, 0, 0, 8, 10, 20, 4, 2, 19, 6, 17], ce_m54)]) (by decide +kernel) ce_p71 (ce_pc ce_p54 (ce_pc ce_p54 (ce_pc ce_p54 ce_pn)))
def ce_m212 : Nat → Nat → Int := ce_F 6 11 0x12209000042401040041001048048002200008048200009009
theorem ce_p212 : rk_M 2 ce_m212 := ce_st (b1 := 2) (T := ce_m57) (rem := [(4, 3, 0), (1, 4, 4), (1, 5, 5)]) (rows := [0, 9, 2, 10, 5, 6]) (cols := [21, 8, 5, 0, 0, 0, 12, 6, 2, 19, 11]) (L := [(4, 2, [(4, 7, 1), (5, 10, 5)], [0, 10, 3, 9, 4, 7], [15, 5, 6, 21, 0, 11, 19, 0, 3, 12], ce_m57), (5, 2, [], [0, 7, 4, 8, 3, 10], [17, 14, 3, 13, 0, 0, 19, 4, 6, 20, 9], ce_m57), (0, 2, [], [0, 6, 5, 9, 2, 11], [0, 11, 2, 12, 0, 0, 18, 5, 7, 21, 8], ce_m57), (1, 2, [], [0, 6, 5, 9, 2, 11], [0, 0, 2, 12, 0, 0, 18, 5, 7, 21, 8], ce_m57)]) (by decide +kernel) ce_p57 (ce_pc ce_p57 (ce_pc ce_p57 (ce_pc ce_p57 (ce_pc ce_p57 ce_pn))))
def ce_m213 : Nat → Nat → Int := ce_F 6 11 0x11240008240041009040040248082208000040240200000049
theorem ce_p213 : rk_M 2 ce_m213 := ce_st (b1 := 2) (T := ce_m71) (rem := [(4, 9, 2)]) (rows := [0, 4, 2, 6, 8, 10]) (cols := [6, 16, 18, 5, 12, 8, 2, 14, 10, 0, 20]) (L := [(1, 1, [(4, 7, 0), (5, 10, 2)], [0, 4, 2, 10, 7, 9], [12, 0, 18, 6, 14, 8, 5, 0, 3, 21], ce_m49), (2, 1, [(4, 4, 0)], [0, 4, 2, 10, 7, 9], [14, 0, 0, 6, 0, 8, 5, 12, 3, 21, 19], ce_m49), (0, 1, [], [0, 4, 2, 10, 7, 9], [0, 0, 0, 6, 14, 8, 5, 12, 3, 21, 19], ce_m49)]) (by decide +kernel) ce_p71 (ce_pc ce_p49 (ce_pc ce_p49 (ce_pc ce_p49 ce_pn)))
def ce_m214 : Nat → Nat → Int := ce_F 6 11 0x8408440010211040240011000040041200040048200048009
theorem ce_p214 : rk_M 2 ce_m214 := ce_st (b1 := 2) (T := ce_m53) (rem := [(1, 0, 1), (1, 1, 2), (1, 5, 4), (1, 6, 5)]) (rows := [0, 2, 8, 10, 4, 6]) (cols := [0, 0, 4, 6, 10, 0, 0, 2, 17, 15, 18]) (L := [(0, 2, [(5, 7, 5)], [0, 10, 6, 5, 2, 9], [0, 14, 6, 17, 4, 9, 19, 0, 12, 3, 11], ce_m111), (1, 2, [(5, 8, 6)], [0, 2, 8, 10, 4, 6], [0, 0, 4, 6, 10, 13, 16, 2, 0, 15, 18], ce_m53), (5, 2, [], [0, 2, 4, 6, 10, 9], [0, 0, 2, 8, 10, 0, 20, 12, 6, 19, 16], ce_m66), (6, 2, [], [0, 2, 8, 10, 4, 6], [0, 0, 4, 6, 10, 0, 0, 2, 17, 15, 18], ce_m53)]) (by decide +kernel) ce_p53 (ce_pc ce_p111 (ce_pc ce_p53 (ce_pc ce_p66 (ce_pc ce_p53 ce_pn))))
def ce_m215 : Nat → Nat → Int := ce_F 6 11 0x11202200040240240041001010041001040001049000001248
theorem ce_p215 : rk_M 2 ce_m215 := ce_st (b1 := 2) (T := ce_m51) (rem := [(1, 1, 1), (1, 4, 5)]) (rows := [0, 2, 4, 8, 10, 7]) (cols := [12, 0, 6, 8, 0, 4, 18, 22, 10, 15, 20]) (L := [(1, 1, [(5, 5, 4), (4, 6, 2), (4, 7, 3), (0, 1, 4), (1, 4, 5)], [0, 0, 2, 5, 6, 9], [6, 0, 2, 13, 0, 0, 0, 0, 10, 9, 4], ce_m13), (4, 2, [], [0, 5, 3, 8, 7, 10], [7, 0, 3, 11, 0, 15, 5, 17, 13, 20, 19], ce_m63), (2, 1, [(0, 1, 5), (5, 3, 0), (1, 5, 5)], [0, 0, 2, 5, 6, 9], [6, 0, 0, 0, 0, 0, 2, 13, 10, 9, 4], ce_m13), (3, 1, [(0, 1, 5), (1, 5, 5)], [0, 0, 2, 5, 6, 9], [6, 0, 0, 0, 0, 0, 2, 13, 10, 9, 4], ce_m13)]) (by decide +kernel) ce_p51 (ce_pc ce_p13 (ce_pc ce_p63 (ce_pc ce_p13 (ce_pc ce_p13 ce_pn))))
end
section
/-! the certificate, 2: written by wip/whole/emit.py -/
def ce_m216 : Nat → Nat → Int := ce_F 6 11 0x9402440040240041041001048049000040001088000001009
theorem ce_p216 : rk_M 2 ce_m216 := ce_st (b1 := 2) (T := ce_m51) (rem := [(1, 1, 3), (1, 4, 5), (4, 7, 0)]) (rows := [0, 3, 8, 10, 7, 4]) (cols := [17, 0, 5, 6, 0, 3, 15, 0, 13, 18, 10]) (L := [(1, 2, [(4, 6, 0), (5, 9, 4)], [0, 3, 8, 10, 7, 4], [15, 0, 5, 6, 19, 3, 0, 17, 13, 0, 10], ce_m51), (4, 2, [], [0, 3, 6, 4, 9, 10], [10, 0, 5, 2, 0, 7, 12, 8, 17, 14, 18], ce_m108), (0, 2, [], [0, 3, 8, 10, 7, 4], [0, 0, 5, 6, 0, 3, 15, 17, 13, 18, 10], ce_m51)]) (by decide +kernel) ce_p51 (ce_pc ce_p51 (ce_pc ce_p108 (ce_pc ce_p51 ce_pn)))
def ce_m217 : Nat → Nat → Int := ce_F 6 11 0x11480408040250008040211000040208040040201200000049
theorem ce_p217 : rk_M 2 ce_m217 := ce_st (b1 := 2) (T := ce_m51) (rem := [(1, 2, 5)]) (rows := [0, 2, 6, 9, 4, 11]) (cols := [4, 2, 0, 14, 8, 11, 12, 6, 20, 23, 18]) (L := [(2, 2, [(4, 7, 1)], [0, 3, 5, 6, 9, 10], [5, 7, 0, 11, 3, 9, 12, 0, 15, 16, 19], ce_m114), (0, 2, [(5, 5, 1)], [0, 3, 7, 4, 9, 10], [0, 14, 0, 10, 7, 0, 12, 9, 21, 18, 23], ce_m51), (1, 2, [], [0, 3, 7, 4, 9, 10], [0, 0, 0, 10, 7, 15, 12, 9, 21, 18, 23], ce_m51)]) (by decide +kernel) ce_p51 (ce_pc ce_p114 (ce_pc ce_p51 (ce_pc ce_p51 ce_pn)))
def ce_m218 : Nat → Nat → Int := ce_F 6 11 0x11011008041401001048000208009008200001241000000049
theorem ce_p218 : rk_M 2 ce_m218 := ce_st (b1 := 1) (T := ce_m49) (rem := [(4, 3, 1), (4, 8, 0), (4, 9, 2)]) (rows := [0, 4, 7, 10, 2, 9]) (cols := [8, 14, 21, 0, 6, 12, 19, 5, 0, 0, 2]) (L := [(0, 2, [(5, 10, 2)], [0, 3, 7, 4, 10, 9], [0, 3, 21, 5, 13, 7, 17, 19, 14, 8], ce_m63), (1, 2, [], [0, 3, 7, 4, 9, 10], [0, 0, 2, 5, 7, 13, 19, 17, 8, 14, 21], ce_m63), (2, 1, [], [0, 4, 7, 10, 2, 9], [0, 0, 0, 14, 6, 12, 19, 5, 8, 21, 2], ce_m49)]) (by decide +kernel) ce_p49 (ce_pc ce_p63 (ce_pc ce_p63 (ce_pc ce_p49 ce_pn)))
def ce_m219 : Nat → Nat → Int := ce_F 6 11 0x11011040041401001048001008009001200001208000000209
theorem ce_p219 : rk_M 2 ce_m219 := ce_st (b1 := 1) (T := ce_m49) (rem := [(1, 1, 2), (4, 8, 0), (4, 9, 3)]) (rows := [0, 4, 7, 10, 2, 9]) (cols := [8, 0, 14, 21, 6, 12, 19, 5, 0, 0, 2]) (L := [(1, 2, [], [0, 2, 10, 5, 6, 8], [15, 0, 4, 13, 2, 6, 18, 20, 11, 9, 16], ce_m70), (0, 1, [(5, 10, 3)], [0, 4, 7, 10, 2, 9], [0, 0, 14, 3, 6, 12, 19, 5, 8, 21], ce_m49), (3, 1, [], [0, 4, 7, 10, 2, 9], [0, 0, 14, 0, 6, 12, 19, 5, 8, 21, 2], ce_m49)]) (by decide +kernel) ce_p49 (ce_pc ce_p70 (ce_pc ce_p49 (ce_pc ce_p49 ce_pn)))
def ce_m220 : Nat → Nat → Int := ce_F 6 11 0xa280008040051000040202040040201200040240200000049
theorem ce_p220 : rk_M 2 ce_m220 := ce_st (b1 := 1) (T := ce_m49) (rem := [(1, 0, 1), (4, 8, 2)]) (rows := [0, 5, 10, 2, 6, 9]) (cols := [0, 8, 21, 7, 15, 17, 4, 13, 0, 2, 18]) (L := [(0, 2, [], [0, 10, 3, 9, 6, 5], [0, 9, 7, 22, 20, 5, 14, 18, 3, 12, 11], ce_m51), (1, 1, [(5, 9, 2)], [0, 4, 11, 6, 2, 8], [0, 0, 19, 14, 6, 9, 4, 12, 20, 0, 2], ce_m49), (2, 1, [], [0, 4, 11, 6, 2, 8], [0, 0, 0, 14, 6, 9, 4, 12, 20, 18, 2], ce_m49)]) (by decide +kernel) ce_p49 (ce_pc ce_p51 (ce_pc ce_p49 (ce_pc ce_p49 ce_pn)))
def ce_m221 : Nat → Nat → Int := ce_F 6 10 0x28228800008a281209201201248009001041200008209
theorem ce_p221 : rk_M 2 ce_m221 := ce_st (b1 := 2) (T := ce_m52) (rem := []) (rows := [0, 2, 8, 4, 7, 11]) (cols := [17, 2, 4, 13, 6, 20, 8, 10, 18, 14]) (L := [(0, 2, [(3, 4, 1), (4, 2, 1), (5, 8, 3), (4, 9, 5)], [0, 4, 9, 2, 0, 6], [0, 8, 0, 12, 16, 2, 4, 14], ce_m15), (3, 2, [(3, 4, 1), (4, 6, 1), (4, 7, 5)], [0, 4, 9, 2, 0, 6], [0, 4, 8, 0, 16, 14, 0, 0, 13, 2], ce_m15), (1, 2, [(3, 4, 1), (5, 5, 4)], [0, 4, 9, 2, 0, 6], [0, 0, 8, 0, 16, 0, 4, 14, 13, 2], ce_m15), (5, 2, [(3, 4, 1)], [0, 4, 9, 2, 0, 6], [0, 0, 8, 0, 16, 0, 4, 14, 13, 2], ce_m15)]) (by decide +kernel) ce_p52 (ce_pc ce_p15 (ce_pc ce_p15 (ce_pc ce_p15 (ce_pc ce_p15 ce_pn))))
def ce_m222 : Nat → Nat → Int := ce_F 6 10 0x442280208248201281048041248041001041040008209
theorem ce_p222 : rk_M 2 ce_m222 := ce_st (b1 := 2) (T := ce_m73) (rem := [(1, 1, 5)]) (rows := [0, 2, 8, 6, 10, 5]) (cols := [8, 0, 6, 16, 2, 15, 4, 18, 11, 12]) (L := [(1, 2, [(3, 5, 3), (4, 6, 0), (4, 7, 5), (4, 9, 3)], [0, 4, 2, 7, 9], [4, 0, 8, 13, 16, 14, 0, 0, 2], ce_m15), (3, 2, [(3, 5, 3), (4, 2, 0), (4, 8, 5)], [0, 4, 2, 7, 9], [8, 0, 0, 0, 16, 2, 4, 14, 0, 13], ce_m15), (5, 2, [(3, 5, 3), (4, 4, 0)], [0, 4, 2, 7, 9], [16, 0, 8, 0, 0, 0, 4, 14, 2, 13], ce_m15), (0, 2, [(3, 5, 3)], [0, 4, 2, 7, 9], [0, 0, 8, 0, 16, 0, 4, 14, 2, 13], ce_m15)]) (by decide +kernel) ce_p73 (ce_pc ce_p15 (ce_pc ce_p15 (ce_pc ce_p15 (ce_pc ce_p15 ce_pn))))
def ce_m223 : Nat → Nat → Int := ce_F 6 10 0x409410209080241042481008009201009040240000249
theorem ce_p223 : rk_M 2 ce_m223 := ce_st (b1 := 2) (T := ce_m140) (rem := [(4, 7, 1), (4, 8, 2), (4, 9, 3)]) (rows := [0, 2, 10, 7, 9, 4]) (cols := [12, 4, 9, 11, 2, 15, 6]) (L := [(1, 2, [(5, 6, 2), (4, 9, 0)], [0, 6, 8, 3, 5, 10], [13, 0, 7, 9, 4, 10, 0, 14, 3], ce_m137), (2, 2, [(4, 4, 0), (4, 5, 3)], [0, 9, 3, 4, 11, 6], [3, 0, 0, 5, 0, 0, 21, 16, 14, 7], ce_m52), (0, 2, [(5, 7, 3)], [0, 9, 3, 4, 11, 6], [0, 0, 0, 17, 3, 5, 21, 0, 14, 7], ce_m52), (3, 2, [], [0, 9, 3, 4, 11, 6], [0, 0, 0, 0, 3, 5, 21, 16, 14, 7], ce_m52)]) (by decide +kernel) ce_p140 (ce_pc ce_p137 (ce_pc ce_p52 (ce_pc ce_p52 (ce_pc ce_p52 ce_pn))))
def ce_m224 : Nat → Nat → Int := ce_F 6 10 0x451010042208240401201048201208041040240000249
theorem ce_p224 : rk_M 2 ce_m224 := ce_st (b1 := 2) (T := ce_m67) (rem := [(4, 4, 1), (4, 5, 2), (4, 6, 0), (4, 7, 3)]) (rows := [0, 4, 11, 6, 9, 2]) (cols := [4, 16, 18, 9, 0, 0, 0, 0, 2, 7]) (L := [(1, 2, [(5, 8, 3), (5, 9, 0)], [0, 2, 4, 9, 7, 10], [11, 0, 7, 3, 4, 9, 12, 14], ce_m140), (2, 2, [(4, 8, 0), (4, 9, 3)], [0, 4, 11, 6, 9, 2], [2, 0, 0, 7, 16, 18, 4, 9], ce_m67), (0, 2, [], [0, 2, 9, 4, 7, 10], [0, 0, 0, 7, 4, 2, 8, 15, 10, 13], ce_m139), (3, 2, [], [0, 4, 11, 6, 9, 2], [0, 0, 0, 0, 16, 18, 4, 9, 2, 7], ce_m67)]) (by decide +kernel) ce_p67 (ce_pc ce_p140 (ce_pc ce_p67 (ce_pc ce_p139 (ce_pc ce_p67 ce_pn))))
def ce_m225 : Nat → Nat → Int := ce_F 6 10 0x89488009240048248200241001048008008240088081
theorem ce_p225 : rk_M 2 ce_m225 := ce_st (b1 := 2) (T := ce_m54) (rem := []) (rows := [0, 2, 4, 6, 8, 10]) (cols := [2, 4, 6, 8, 10, 18, 20, 12, 14, 16]) (L := [(0, 2, [(2, 4, 3), (4, 2, 1), (5, 5, 3), (4, 7, 6), (1, 9, 3)], [0, 2, 9, 5, 0, 6], [0, 7, 0, 8, 17, 0, 2, 0, 15], ce_m14), (2, 2, [(2, 4, 3), (5, 6, 4), (4, 8, 5), (1, 9, 3)], [0, 2, 9, 5, 0, 6], [0, 7, 0, 8, 17, 15, 0, 2], ce_m14), (5, 2, [(2, 4, 3), (1, 6, 3), (1, 9, 3)], [0, 2, 9, 5, 0, 6], [0, 7, 0, 8, 17, 0, 0, 2, 15], ce_m14), (6, 2, [(2, 4, 3), (1, 9, 3)], [0, 2, 9, 5, 0, 6], [0, 7, 0, 8, 17, 0, 0, 2, 15], ce_m14)]) (by decide +kernel) ce_p54 (ce_pc ce_p14 (ce_pc ce_p14 (ce_pc ce_p14 (ce_pc ce_p14 ce_pn))))
def ce_m226 : Nat → Nat → Int := ce_F 6 10 0x28a00900a201040041201200208248001041240000249
theorem ce_p226 : rk_M 2 ce_m226 := ce_st (b1 := 2) (T := ce_m79) (rem := [(1, 0, 1)]) (rows := [0, 2, 8, 6, 4, 10]) (cols := [0, 4, 6, 18, 2, 10, 8, 14, 13, 16]) (L := [(0, 2, [(4, 5, 1)], [0, 5, 2, 6, 11, 8], [0, 4, 10, 2, 13, 0, 7, 14, 17, 18], ce_m83), (3, 2, [(4, 6, 1)], [0, 2, 6, 4, 10, 9], [0, 4, 6, 0, 8, 10, 0, 16, 14, 21], ce_m57), (1, 2, [(4, 9, 2)], [0, 4, 6, 2, 8, 11], [0, 0, 22, 0, 6, 4, 12, 16, 14], ce_m50), (2, 2, [], [0, 4, 6, 2, 8, 11], [0, 0, 0, 0, 6, 4, 12, 16, 14, 22], ce_m50)]) (by decide +kernel) ce_p79 (ce_pc ce_p83 (ce_pc ce_p57 (ce_pc ce_p50 (ce_pc ce_p50 ce_pn))))
def ce_m227 : Nat → Nat → Int := ce_F 6 10 0x24120804824120105000a200011288001201040001209
theorem ce_p227 : rk_M 2 ce_m227 := ce_st (b1 := 2) (T := ce_m52) (rem := [(4, 6, 0)]) (rows := [0, 3, 4, 8, 11, 7]) (cols := [7, 10, 3, 20, 14, 5, 0, 19, 17, 13]) (L := [(1, 2, [(4, 7, 4), (4, 9, 3)], [0, 2, 7, 11, 8, 4], [8, 0, 6, 10, 18, 4, 2, 0, 14], ce_m52), (4, 2, [(4, 5, 0), (4, 8, 3)], [0, 10, 9, 6, 4, 2], [8, 0, 17, 4, 0, 0, 6, 10, 0, 2], ce_m51), (0, 2, [(5, 3, 2)], [0, 10, 9, 6, 4, 2], [0, 0, 17, 0, 0, 8, 6, 10, 4, 2], ce_m51), (3, 2, [], [0, 10, 9, 6, 4, 2], [0, 0, 17, 0, 0, 8, 6, 10, 4, 2], ce_m51)]) (by decide +kernel) ce_p52 (ce_pc ce_p52 (ce_pc ce_p51 (ce_pc ce_p51 (ce_pc ce_p51 ce_pn))))
def ce_m228 : Nat → Nat → Int := ce_F 6 10 0x49000a20804a088249001042008088008041040040209
theorem ce_p228 : rk_M 2 ce_m228 := ce_st (b1 := 2) (T := ce_m84) (rem := [(1, 3, 5)]) (rows := [0, 4, 3, 8, 11, 7]) (cols := [12, 7, 2, 0, 14, 11, 18, 8, 4, 16]) (L := [(3, 2, [(3, 5, 3), (4, 5, 1), (4, 7, 0), (4, 9, 6)], [0, 4, 8, 2, 6], [8, 12, 4, 0, 16, 0, 2, 0, 14], ce_m15), (0, 2, [(3, 5, 3), (5, 2, 1), (5, 6, 4)], [0, 4, 8, 2, 6], [0, 5, 0, 0, 16, 12, 0, 8, 14, 2], ce_m15), (6, 2, [(3, 5, 3), (5, 8, 1)], [0, 4, 8, 2, 6], [0, 15, 4, 0, 16, 12, 0, 8, 0, 2], ce_m15), (1, 2, [(3, 5, 3)], [0, 4, 8, 2, 6], [0, 0, 4, 0, 16, 12, 0, 8, 14, 2], ce_m15)]) (by decide +kernel) ce_p84 (ce_pc ce_p15 (ce_pc ce_p15 (ce_pc ce_p15 (ce_pc ce_p15 ce_pn))))
def ce_m229 : Nat → Nat → Int := ce_F 6 10 0x248001409040042208211001041240008241040049048
theorem ce_p229 : rk_M 2 ce_m229 := ce_st (b1 := 2) (T := ce_m52) (rem := [(1, 1, 5)]) (rows := [0, 8, 10, 4, 6, 2]) (cols := [17, 0, 8, 15, 18, 10, 12, 2, 6, 4]) (L := [(1, 2, [(4, 7, 5), (4, 8, 6)], [0, 2, 4, 6, 8, 10], [4, 0, 6, 2, 8, 10, 12, 0, 0, 14], ce_m139), (4, 2, [(5, 5, 3), (5, 6, 0), (4, 9, 2)], [0, 4, 7, 2, 9, 10], [6, 0, 14, 5, 0, 0, 0, 12, 17], ce_m50), (5, 2, [(4, 8, 2)], [0, 8, 10, 4, 6, 2], [17, 0, 6, 15, 0, 0, 21, 2, 0, 4], ce_m52), (6, 2, [(4, 7, 2)], [0, 4, 7, 2, 9, 10], [6, 0, 12, 5, 0, 0, 0, 0, 17, 14], ce_m50), (2, 2, [], [0, 4, 7, 2, 9, 10], [6, 0, 0, 5, 0, 0, 0, 12, 17, 14], ce_m50)]) (by decide +kernel) ce_p52 (ce_pc ce_p139 (ce_pc ce_p50 (ce_pc ce_p52 (ce_pc ce_p50 (ce_pc ce_p50 ce_pn)))))
def ce_m230 : Nat → Nat → Int := ce_F 6 10 0x25020220148028824104104000a088009001041000209
theorem ce_p230 : rk_M 2 ce_m230 := ce_st (b1 := 2) (T := ce_m84) (rem := [(1, 3, 4)]) (rows := [0, 2, 5, 10, 7, 9]) (cols := [10, 9, 2, 0, 14, 13, 6, 4, 17, 19]) (L := [(3, 2, [(3, 4, 1), (4, 5, 1), (4, 6, 0), (4, 9, 8)], [0, 4, 8, 2, 0, 6], [8, 12, 4, 0, 14, 0, 0, 16, 2], ce_m15), (0, 2, [(3, 4, 1), (5, 2, 1), (5, 8, 7)], [0, 4, 8, 2, 0, 6], [0, 5, 0, 0, 14, 12, 8, 16, 0, 2], ce_m15), (1, 2, [(3, 4, 1), (4, 8, 4)], [0, 4, 8, 2, 0, 6], [0, 0, 4, 0, 14, 12, 8, 16, 0, 2], ce_m15), (8, 2, [(3, 4, 1)], [0, 4, 8, 2, 0, 6], [0, 0, 4, 0, 14, 12, 8, 16, 0, 2], ce_m15)]) (by decide +kernel) ce_p84 (ce_pc ce_p15 (ce_pc ce_p15 (ce_pc ce_p15 (ce_pc ce_p15 ce_pn))))
def ce_m231 : Nat → Nat → Int := ce_F 6 10 0x250009208490200041201200482240009040240000249
theorem ce_p231 : rk_M 2 ce_m231 := ce_st (b1 := 2) (T := ce_m82) (rem := [(1, 0, 1)]) (rows := [0, 3, 4, 9, 6, 10]) (cols := [0, 9, 14, 12, 3, 11, 5, 7, 19, 16]) (L := [(0, 2, [(3, 2, 1), (1, 4, 1), (5, 7, 3), (4, 8, 1)], [0, 4, 0, 6, 3, 8], [0, 4, 14, 6, 0, 8, 2, 0, 0, 10], ce_m21), (1, 2, [(3, 2, 1), (1, 2, 1), (1, 4, 1), (5, 6, 3)], [0, 7, 0, 3, 8, 5], [0, 0, 0, 6, 0, 9, 0, 12, 3, 15], ce_m16), (2, 2, [(3, 2, 1), (1, 4, 1), (5, 5, 3)], [0, 7, 0, 3, 8, 5], [0, 0, 0, 8, 0, 0, 7, 12, 3, 15], ce_m16), (3, 2, [(3, 2, 1), (1, 4, 1)], [0, 7, 0, 3, 8, 5], [0, 0, 0, 0, 0, 9, 7, 12, 3, 15], ce_m16)]) (by decide +kernel) ce_p82 (ce_pc ce_p21 (ce_pc ce_p16 (ce_pc ce_p16 (ce_pc ce_p16 ce_pn))))
def ce_m232 : Nat → Nat → Int := ce_F 6 10 0x24804120920020908a202041040048008200240002281
theorem ce_p232 : rk_M 2 ce_m232 := ce_st (b1 := 2) (T := ce_m119) (rem := [(1, 3, 4), (1, 4, 5)]) (rows := [0, 2, 4, 10, 6, 8]) (cols := [8, 4, 10, 0, 0, 12, 14, 2, 6, 16]) (L := [(3, 2, [(2, 5, 4), (1, 4, 4), (4, 5, 0), (4, 8, 2), (1, 9, 4)], [0, 2, 9, 6, 5], [8, 7, 15, 0, 0, 0, 17, 2], ce_m14), (4, 2, [(2, 5, 4), (4, 6, 2), (4, 7, 0), (1, 9, 4)], [0, 2, 9, 6, 5], [2, 7, 17, 0, 0, 8, 0, 0, 15], ce_m14), (0, 2, [(2, 5, 4), (4, 2, 1), (1, 9, 4)], [0, 2, 9, 6, 5], [0, 7, 0, 0, 0, 8, 17, 2, 15], ce_m14), (2, 2, [(2, 5, 4), (1, 9, 4)], [0, 2, 9, 6, 5], [0, 7, 0, 0, 0, 8, 17, 2, 15], ce_m14)]) (by decide +kernel) ce_p119 (ce_pc ce_p14 (ce_pc ce_p14 (ce_pc ce_p14 (ce_pc ce_p14 ce_pn))))
def ce_m233 : Nat → Nat → Int := ce_F 6 10 0x88241210048209208041201040209000248200000049
theorem ce_p233 : rk_M 2 ce_m233 := ce_st (b1 := 2) (T := ce_m52) (rem := [(4, 6, 0), (4, 7, 2)]) (rows := [0, 2, 8, 10, 4, 6]) (cols := [10, 8, 12, 2, 6, 4, 0, 0, 17, 15]) (L := [(0, 2, [(4, 4, 1)], [0, 2, 8, 10, 4, 6], [0, 6, 21, 2, 0, 4, 10, 12, 17, 15], ce_m52), (2, 2, [(4, 3, 1)], [0, 10, 4, 7, 2, 9], [0, 12, 0, 0, 17, 14, 2, 9, 6, 5], ce_m50), (1, 2, [], [0, 10, 4, 7, 2, 9], [0, 0, 0, 12, 17, 14, 2, 9, 6, 5], ce_m50)]) (by decide +kernel) ce_p52 (ce_pc ce_p52 (ce_pc ce_p50 (ce_pc ce_p50 ce_pn)))
def ce_m234 : Nat → Nat → Int := ce_F 6 10 0x291240008408440042091000201209001048040008049
theorem ce_p234 : rk_M 2 ce_m234 := ce_st (b1 := 2) (T := ce_m55) (rem := [(1, 1, 2), (4, 9, 5)]) (rows := [0, 9, 3, 10, 4, 6]) (cols := [5, 0, 16, 11, 13, 6, 14, 9, 19]) (L := [(1, 2, [(1, 0, 1), (5, 7, 5)], [0, 5, 3, 6, 8, 11], [0, 0, 6, 3, 5, 8, 11, 0, 14, 16], ce_m115), (0, 2, [(5, 3, 2)], [0, 6, 8, 3, 5, 10], [0, 0, 5, 0, 2, 7, 8, 10, 13, 15], ce_m119), (2, 2, [(5, 8, 5)], [0, 9, 3, 10, 4, 6], [0, 0, 0, 11, 13, 18, 14, 9, 0, 6], ce_m55), (5, 2, [], [0, 9, 3, 10, 4, 6], [0, 0, 0, 11, 13, 0, 14, 9, 19, 6], ce_m55)]) (by decide +kernel) ce_p55 (ce_pc ce_p115 (ce_pc ce_p119 (ce_pc ce_p55 (ce_pc ce_p55 ce_pn))))
def ce_m235 : Nat → Nat → Int := ce_F 6 10 0x24041120920100920a010201041201000248040000049
theorem ce_p235 : rk_M 2 ce_m235 := ce_st (b1 := 2) (T := ce_m53) (rem := [(1, 2, 5), (4, 4, 0), (4, 9, 1)]) (rows := [0, 6, 10, 4, 2, 8]) (cols := [6, 4, 0, 11, 0, 16, 15, 2, 20]) (L := [(2, 2, [(4, 7, 1)], [0, 6, 10, 4, 2, 8], [8, 2, 0, 11, 6, 16, 15, 0, 20, 4], ce_m53), (0, 2, [(5, 3, 1)], [0, 6, 10, 4, 2, 8], [0, 10, 0, 0, 6, 16, 15, 2, 20, 4], ce_m53), (1, 2, [], [0, 6, 10, 4, 2, 8], [0, 0, 0, 11, 6, 16, 15, 2, 20, 4], ce_m53)]) (by decide +kernel) ce_p53 (ce_pc ce_p53 (ce_pc ce_p53 (ce_pc ce_p53 ce_pn)))
def ce_m236 : Nat → Nat → Int := ce_F 6 10 0x49100220920804100a448002001088008009040048009
theorem ce_p236 : rk_M 2 ce_m236 := ce_st (b1 := 2) (T := ce_m59) (rem := []) (rows := [0, 2, 5, 6, 8, 11]) (cols := [10, 13, 2, 4, 7, 16, 19, 8, 14, 20]) (L := [(0, 2, [(3, 5, 4), (5, 2, 1), (5, 5, 3), (5, 7, 6), (1, 9, 4)], [0, 2, 8, 6, 5], [0, 6, 0, 8, 16, 0, 3, 0, 11], ce_m14), (1, 2, [(3, 5, 4), (5, 6, 4), (1, 9, 4)], [0, 4, 6, 8, 3], [0, 0, 3, 10, 16, 13, 0, 6, 9], ce_m14), (5, 2, [(3, 5, 4), (1, 6, 4), (1, 9, 4)], [0, 2, 8, 6, 5], [0, 0, 7, 8, 16, 0, 0, 2, 11], ce_m14), (6, 2, [(3, 5, 4), (1, 9, 4)], [0, 2, 8, 6, 5], [0, 0, 7, 8, 16, 0, 0, 2, 11], ce_m14)]) (by decide +kernel) ce_p59 (ce_pc ce_p14 (ce_pc ce_p14 (ce_pc ce_p14 (ce_pc ce_p14 ce_pn))))
def ce_m237 : Nat → Nat → Int := ce_F 6 10 0x20228900a002240290008201208041000209040041009
theorem ce_p237 : rk_M 2 ce_m237 := ce_st (b1 := 2) (T := ce_m123) (rem := [(1, 1, 3), (1, 6, 5)]) (rows := [0, 5, 10, 3, 7, 9]) (cols := [7, 0, 15, 3, 16, 13, 0, 4, 10, 9]) (L := [(1, 2, [(5, 9, 4)], [0, 2, 8, 10, 4, 6], [8, 0, 2, 4, 11, 6, 15, 16, 13], ce_m115), (6, 2, [(1, 4, 4), (4, 5, 0)], [0, 2, 8, 10, 4, 6], [6, 0, 2, 4, 0, 0, 0, 16, 13, 10], ce_m115), (0, 2, [(5, 4, 2)], [0, 2, 8, 10, 4, 6], [0, 0, 2, 4, 0, 6, 0, 16, 13, 10], ce_m115), (4, 2, [], [0, 2, 8, 10, 4, 6], [0, 0, 2, 4, 0, 6, 0, 16, 13, 10], ce_m115)]) (by decide +kernel) ce_p123 (ce_pc ce_p115 (ce_pc ce_p115 (ce_pc ce_p115 (ce_pc ce_p115 ce_pn))))
def ce_m238 : Nat → Nat → Int := ce_F 6 10 0x251240009009040050050200208241001208040001049
theorem ce_p238 : rk_M 2 ce_m238 := ce_st (b1 := 2) (T := ce_m52) (rem := [(1, 1, 3), (4, 8, 4)]) (rows := [0, 8, 4, 3, 11, 7]) (cols := [10, 0, 14, 2, 7, 20, 17, 4, 0, 13]) (L := [(1, 2, [(4, 3, 0), (4, 9, 4)], [0, 2, 6, 5, 10, 8], [2, 0, 12, 0, 18, 8, 6, 10, 15], ce_m73), (0, 2, [], [0, 11, 7, 2, 8, 4], [0, 0, 18, 7, 8, 20, 14, 5, 2, 10], ce_m52), (2, 2, [(5, 7, 4)], [0, 11, 7, 2, 8, 4], [0, 0, 0, 7, 4, 20, 14, 0, 2, 10], ce_m52), (4, 2, [], [0, 11, 7, 2, 8, 4], [0, 0, 0, 7, 0, 20, 14, 5, 2, 10], ce_m52)]) (by decide +kernel) ce_p52 (ce_pc ce_p73 (ce_pc ce_p52 (ce_pc ce_p52 (ce_pc ce_p52 ce_pn))))
def ce_m239 : Nat → Nat → Int := ce_F 6 10 0x24a00801004900824800820100824800804828000024a
theorem ce_p239 : rk_M 2 ce_m239 := ce_st (b1 := 2) (T := ce_m121) (rem := [(1, 0, 1), (1, 2, 2)]) (rows := [0, 2, 4, 6, 8, 10]) (cols := [0, 4, 0, 6, 3, 8, 14, 10, 12, 16]) (L := [(0, 2, [(4, 8, 3)], [0, 7, 9, 5, 10, 3], [0, 15, 12, 5, 19, 21, 8, 3, 0, 7], ce_m57), (2, 2, [(4, 7, 3)], [0, 9, 7, 5, 10, 3], [0, 15, 0, 5, 21, 19, 8, 0, 3, 7], ce_m57), (1, 2, [(5, 6, 3)], [0, 9, 11, 3, 6, 5], [0, 0, 0, 11, 12, 18, 0, 5, 7, 3], ce_m57), (3, 2, [], [0, 9, 11, 3, 6, 5], [0, 0, 0, 0, 12, 18, 10, 5, 7, 3], ce_m57)]) (by decide +kernel) ce_p121 (ce_pc ce_p57 (ce_pc ce_p57 (ce_pc ce_p57 (ce_pc ce_p57 ce_pn))))
def ce_m240 : Nat → Nat → Int := ce_F 6 10 0x45124000a210088000248240041088040201040200209
theorem ce_p240 : rk_M 2 ce_m240 := ce_st (b1 := 2) (T := ce_m83) (rem := [(1, 3, 3), (4, 9, 7)]) (rows := [0, 3, 4, 7, 8, 10]) (cols := [5, 6, 3, 0, 8, 11, 12, 18, 15]) (L := [(3, 2, [(1, 0, 1)], [0, 3, 6, 5, 8, 11], [0, 12, 3, 0, 7, 5, 15, 10, 9, 16], ce_m124), (0, 2, [(5, 2, 1), (5, 7, 5)], [0, 6, 4, 2, 9, 10], [0, 10, 0, 0, 8, 6, 16, 0, 14, 19], ce_m77), (7, 2, [(4, 4, 1)], [0, 6, 4, 2, 9, 10], [0, 8, 11, 0, 0, 6, 16, 0, 14, 19], ce_m77), (1, 2, [], [0, 6, 4, 2, 9, 10], [0, 0, 11, 0, 8, 6, 16, 0, 14, 19], ce_m77)]) (by decide +kernel) ce_p83 (ce_pc ce_p124 (ce_pc ce_p77 (ce_pc ce_p77 (ce_pc ce_p77 ce_pn))))
def ce_m241 : Nat → Nat → Int := ce_F 6 10 0x241208010442040200248212400048248008040000249
theorem ce_p241 : rk_M 2 ce_m241 := ce_st (b1 := 2) (T := ce_m52) (rem := [(1, 0, 1)]) (rows := [0, 3, 4, 11, 8, 7]) (cols := [0, 14, 10, 7, 19, 13, 17, 3, 5, 9]) (L := [(0, 2, [(3, 2, 1), (4, 5, 3), (5, 7, 2)], [0, 2, 0, 7, 5, 9], [0, 3, 9, 13, 16, 0, 11, 0, 14, 4], ce_m15), (1, 2, [(3, 2, 1), (5, 4, 2), (4, 8, 3)], [0, 5, 0, 8, 2, 6], [0, 0, 14, 17, 0, 12, 2, 9, 0, 5], ce_m15), (2, 2, [(3, 2, 1), (4, 9, 3)], [0, 5, 0, 8, 2, 6], [0, 0, 0, 5, 15, 12, 2, 9, 17], ce_m15), (3, 2, [(3, 2, 1)], [0, 5, 0, 8, 2, 6], [0, 0, 0, 0, 15, 12, 2, 9, 17, 5], ce_m15)]) (by decide +kernel) ce_p52 (ce_pc ce_p15 (ce_pc ce_p15 (ce_pc ce_p15 (ce_pc ce_p15 ce_pn))))
def ce_m242 : Nat → Nat → Int := ce_F 6 10 0x441401201209201200248040410048040041040040209
theorem ce_p242 : rk_M 2 ce_m242 := ce_st (b1 := 2) (T := ce_m52) (rem := [(4, 4, 0), (1, 6, 5)]) (rows := [0, 2, 10, 8, 4, 6]) (cols := [2, 12, 6, 10, 0, 20, 0, 14, 4, 17]) (L := [(6, 2, [(1, 1, 2)], [0, 5, 3, 6, 10, 9], [11, 0, 3, 16, 9, 4, 0, 6, 13, 14], ce_m116), (1, 2, [(4, 5, 3)], [0, 4, 11, 2, 6, 9], [4, 0, 14, 8, 2, 0, 0, 16, 10, 6], ce_m73), (3, 2, [(1, 0, 1)], [0, 2, 10, 8, 4, 6], [0, 0, 6, 0, 2, 20, 0, 14, 4, 17], ce_m52), (0, 2, [], [0, 2, 10, 8, 4, 6], [0, 0, 6, 0, 2, 20, 0, 14, 4, 17], ce_m52)]) (by decide +kernel) ce_p52 (ce_pc ce_p116 (ce_pc ce_p73 (ce_pc ce_p52 (ce_pc ce_p52 ce_pn))))
def ce_m243 : Nat → Nat → Int := ce_F 6 10 0x45144000a208088000248240041088040009040208009
theorem ce_p243 : rk_M 2 ce_m243 := ce_st (b1 := 2) (T := ce_m78) (rem := [(4, 3, 0), (4, 9, 7)]) (rows := [0, 3, 6, 5, 10, 9]) (cols := [3, 15, 7, 0, 13, 17, 10, 18, 9]) (L := [(0, 2, [(5, 2, 1), (5, 8, 5)], [0, 3, 4, 7, 8, 10], [0, 2, 0, 5, 8, 14, 12, 10, 0, 18], ce_m83), (7, 2, [(4, 4, 1), (1, 5, 3)], [0, 10, 4, 2, 8, 6], [0, 2, 15, 8, 0, 0, 10, 0, 16, 13], ce_m57), (1, 2, [(5, 6, 5)], [0, 10, 4, 2, 8, 6], [0, 0, 15, 8, 2, 11, 0, 0, 16, 13], ce_m57), (5, 2, [], [0, 10, 4, 2, 8, 6], [0, 0, 15, 8, 2, 0, 10, 0, 16, 13], ce_m57)]) (by decide +kernel) ce_p78 (ce_pc ce_p83 (ce_pc ce_p57 (ce_pc ce_p57 (ce_pc ce_p57 ce_pn))))
def ce_m244 : Nat → Nat → Int := ce_F 6 10 0x488402209048041000248242001088000209040240009
theorem ce_p244 : rk_M 2 ce_m244 := ce_st (b1 := 2) (T := ce_m123) (rem := [(1, 6, 4), (1, 7, 5)]) (rows := [0, 5, 2, 10, 9, 6]) (cols := [13, 10, 3, 7, 4, 15, 0, 0, 9, 17]) (L := [(6, 2, [(3, 5, 4), (4, 3, 0), (1, 7, 4), (1, 9, 4)], [0, 4, 6, 8, 3], [10, 12, 3, 0, 16, 6, 0, 0, 9], ce_m14), (7, 2, [(3, 5, 4), (4, 4, 1), (4, 5, 0), (1, 9, 4)], [0, 2, 8, 6, 5], [2, 16, 7, 8, 0, 0, 0, 0, 11], ce_m14), (0, 2, [(3, 5, 4), (5, 2, 1), (1, 9, 4)], [0, 2, 8, 6, 5], [0, 6, 0, 8, 16, 2, 0, 0, 11], ce_m14), (1, 2, [(3, 5, 4), (1, 9, 4)], [0, 2, 8, 6, 5], [0, 0, 7, 8, 16, 2, 0, 0, 11], ce_m14)]) (by decide +kernel) ce_p123 (ce_pc ce_p14 (ce_pc ce_p14 (ce_pc ce_p14 (ce_pc ce_p14 ce_pn))))
def ce_m245 : Nat → Nat → Int := ce_F 6 10 0x249240009001440012411001209008001208040001049
theorem ce_p245 : rk_M 2 ce_m245 := ce_st (b1 := 2) (T := ce_m78) (rem := [(1, 0, 1), (1, 1, 2), (4, 8, 4)]) (rows := [0, 4, 3, 6, 9, 11]) (cols := [0, 0, 10, 12, 9, 5, 14, 7, 0, 19]) (L := [(0, 2, [(5, 3, 2)], [0, 6, 8, 3, 5, 10], [0, 17, 3, 0, 7, 4, 8, 10, 13, 15], ce_m118), (1, 2, [(4, 9, 4)], [0, 3, 4, 10, 8, 7], [0, 0, 17, 9, 11, 5, 7, 14, 12], ce_m78), (2, 2, [(4, 7, 4)], [0, 2, 5, 11, 9, 6], [0, 0, 0, 8, 15, 4, 6, 0, 13, 10], ce_m78), (4, 2, [], [0, 2, 5, 11, 9, 6], [0, 0, 0, 8, 0, 4, 6, 15, 13, 10], ce_m78)]) (by decide +kernel) ce_p78 (ce_pc ce_p118 (ce_pc ce_p78 (ce_pc ce_p78 (ce_pc ce_p78 ce_pn))))
def ce_m246 : Nat → Nat → Int := ce_F 6 10 0x29200120241044020228020108a008009048040000049
theorem ce_p246 : rk_M 2 ce_m246 := ce_st (b1 := 2) (T := ce_m77) (rem := [(1, 0, 1)]) (rows := [0, 3, 6, 8, 4, 10]) (cols := [0, 14, 16, 3, 5, 11, 7, 9, 13, 18]) (L := [(0, 2, [(5, 6, 1), (5, 7, 2)], [0, 2, 7, 9, 5, 11], [0, 7, 9, 2, 4, 10, 0, 0, 12, 19], ce_m77), (2, 2, [(4, 5, 1)], [0, 2, 7, 9, 5, 11], [0, 10, 0, 2, 4, 0, 6, 8, 12, 19], ce_m77), (1, 2, [], [0, 2, 7, 9, 5, 11], [0, 0, 0, 2, 4, 10, 6, 8, 12, 19], ce_m77)]) (by decide +kernel) ce_p77 (ce_pc ce_p77 (ce_pc ce_p77 (ce_pc ce_p77 ce_pn)))
def ce_m247 : Nat → Nat → Int := ce_F 6 10 0x290201041041201211001041201009000248040000049
theorem ce_p247 : rk_M 2 ce_m247 := ce_st (b1 := 2) (T := ce_m128) (rem := [(1, 1, 2), (4, 9, 2)]) (rows := [0, 4, 2, 6, 8, 10]) (cols := [2, 0, 14, 8, 4, 10, 12, 6, 16]) (L := [(1, 2, [(5, 7, 2)], [0, 8, 2, 11, 4, 7], [20, 0, 7, 10, 2, 17, 14, 0, 4, 13], ce_m52), (2, 2, [(4, 4, 0)], [0, 4, 10, 6, 2, 8], [12, 0, 0, 2, 0, 6, 4, 17, 14, 8], ce_m50), (0, 2, [], [0, 4, 10, 6, 2, 8], [0, 0, 0, 2, 12, 6, 4, 17, 14, 8], ce_m50)]) (by decide +kernel) ce_p128 (ce_pc ce_p52 (ce_pc ce_p50 (ce_pc ce_p50 ce_pn)))
def ce_m248 : Nat → Nat → Int := ce_F 6 10 0x248201041282040490400200450408000248040000049
theorem ce_p248 : rk_M 2 ce_m248 := ce_st (b1 := 2) (T := ce_m60) (rem := []) (rows := [0, 2, 5, 9, 7, 10]) (cols := [8, 13, 19, 2, 4, 6, 11, 14, 17, 20]) (L := [(0, 2, [(3, 5, 3), (5, 4, 2), (5, 5, 1), (1, 9, 3)], [0, 3, 6, 8, 4], [0, 6, 8, 5, 0, 0, 3, 14, 12], ce_m17), (1, 2, [(3, 5, 3), (4, 7, 2), (1, 9, 3)], [0, 3, 6, 8, 4], [0, 0, 14, 5, 9, 7, 3, 0, 12], ce_m17), (2, 2, [(3, 5, 3), (1, 9, 3)], [0, 3, 6, 8, 4], [0, 0, 0, 5, 9, 7, 3, 14, 12], ce_m17)]) (by decide +kernel) ce_p60 (ce_pc ce_p17 (ce_pc ce_p17 (ce_pc ce_p17 ce_pn)))
def ce_m249 : Nat → Nat → Int := ce_F 6 10 0x240481201290040211080201201201000248040000049
theorem ce_p249 : rk_M 2 ce_m249 := ce_st (b1 := 2) (T := ce_m82) (rem := [(4, 3, 0), (4, 9, 1)]) (rows := [0, 2, 4, 7, 10, 9]) (cols := [2, 11, 19, 0, 4, 8, 17, 12, 14]) (L := [(0, 2, [(5, 4, 1)], [0, 7, 8, 5, 2, 10], [0, 11, 8, 17, 0, 7, 3, 4, 20, 15], ce_m53), (1, 2, [(5, 6, 2)], [0, 7, 8, 5, 2, 10], [0, 0, 2, 17, 10, 7, 0, 4, 20, 15], ce_m53), (2, 2, [], [0, 7, 8, 5, 2, 10], [0, 0, 0, 17, 10, 7, 3, 4, 20, 15], ce_m53)]) (by decide +kernel) ce_p82 (ce_pc ce_p53 (ce_pc ce_p53 (ce_pc ce_p53 ce_pn)))
def ce_m250 : Nat → Nat → Int := ce_F 6 10 0x250401208480240041040240241009000248040000049
theorem ce_p250 : rk_M 2 ce_m250 := ce_st (b1 := 2) (T := ce_m57) (rem := [(4, 4, 0), (4, 9, 2)]) (rows := [0, 6, 4, 2, 9, 10]) (cols := [2, 6, 21, 12, 0, 18, 4, 14, 8]) (L := [(2, 2, [(4, 6, 1)], [0, 11, 3, 7, 4, 8], [9, 5, 0, 14, 7, 19, 0, 3, 17, 10], ce_m52), (0, 2, [(5, 5, 1)], [0, 6, 11, 9, 2, 4], [0, 10, 0, 4, 16, 0, 9, 7, 12, 2], ce_m51), (1, 2, [], [0, 6, 11, 9, 2, 4], [0, 0, 0, 4, 16, 11, 9, 7, 12, 2], ce_m51)]) (by decide +kernel) ce_p57 (ce_pc ce_p52 (ce_pc ce_p51 (ce_pc ce_p51 ce_pn)))
def ce_m251 : Nat → Nat → Int := ce_F 6 10 0x442201048241009048240040041201000248040000049
theorem ce_p251 : rk_M 2 ce_m251 := ce_st (b1 := 2) (T := ce_m72) (rem := [(1, 1, 4), (1, 2, 5)]) (rows := [0, 4, 2, 8, 6, 10]) (cols := [6, 0, 0, 2, 4, 16, 8, 12, 18, 14]) (L := [(1, 2, [(5, 9, 2)], [0, 8, 2, 10, 4, 7], [12, 0, 7, 4, 10, 15, 8, 16, 19], ce_m55), (2, 2, [(4, 4, 0)], [0, 2, 8, 4, 10, 6], [10, 0, 0, 4, 0, 8, 15, 16, 6, 19], ce_m55), (0, 2, [], [0, 2, 8, 4, 10, 6], [0, 0, 0, 4, 10, 8, 15, 16, 6, 19], ce_m55)]) (by decide +kernel) ce_p72 (ce_pc ce_p55 (ce_pc ce_p55 (ce_pc ce_p55 ce_pn)))
def ce_m252 : Nat → Nat → Int := ce_F 6 10 0x281088211210009008088200050009200209001001041
theorem ce_p252 : rk_M 2 ce_m252 := ce_st (b1 := 2) (T := ce_m98) (rem := [(1, 2, 1)]) (rows := [0, 3, 4, 7, 8, 11]) (cols := [10, 8, 0, 7, 12, 3, 17, 14, 18, 5]) (L := [(2, 2, [(5, 4, 3), (5, 5, 0), (5, 9, 8)], [0, 3, 8, 11, 4, 7], [2, 20, 0, 7, 0, 0, 17, 14, 4], ce_m52), (0, 2, [(5, 4, 1), (5, 8, 6)], [0, 3, 8, 11, 4, 7], [0, 20, 0, 7, 0, 3, 17, 14, 0, 5], ce_m52), (4, 2, [(4, 8, 7)], [0, 3, 8, 11, 4, 7], [0, 20, 0, 7, 0, 3, 17, 14, 0, 5], ce_m52), (8, 2, [], [0, 3, 8, 11, 4, 7], [0, 20, 0, 7, 0, 3, 17, 14, 0, 5], ce_m52)]) (by decide +kernel) ce_p98 (ce_pc ce_p52 (ce_pc ce_p52 (ce_pc ce_p52 (ce_pc ce_p52 ce_pn))))
def ce_m253 : Nat → Nat → Int := ce_F 6 10 0x490481009200408049010200241009000248040000049
theorem ce_p253 : rk_M 2 ce_m253 := ce_st (b1 := 2) (T := ce_m86) (rem := [(1, 2, 5)]) (rows := [0, 2, 4, 9, 11, 7]) (cols := [3, 14, 0, 8, 4, 6, 10, 18, 16, 12]) (L := [(2, 2, [(4, 4, 0), (4, 7, 1)], [0, 5, 6, 2, 8, 10], [9, 10, 0, 3, 0, 13, 4, 0, 14, 18], ce_m83), (0, 2, [(5, 3, 1)], [0, 5, 6, 2, 8, 10], [0, 2, 0, 0, 9, 13, 4, 10, 14, 18], ce_m83), (1, 2, [], [0, 5, 6, 2, 8, 10], [0, 0, 0, 3, 9, 13, 4, 10, 14, 18], ce_m83)]) (by decide +kernel) ce_p86 (ce_pc ce_p83 (ce_pc ce_p83 (ce_pc ce_p83 ce_pn)))
def ce_m254 : Nat → Nat → Int := ce_F 6 10 0x44100808820a200440440208280009001209000001049
theorem ce_p254 : rk_M 2 ce_m254 := ce_st (b1 := 2) (T := ce_m52) (rem := [(1, 2, 1)]) (rows := [0, 3, 8, 10, 7, 5]) (cols := [10, 18, 0, 5, 12, 7, 3, 17, 15, 20]) (L := [(2, 2, [(5, 5, 4), (5, 6, 0)], [0, 10, 3, 8, 5, 6], [3, 13, 0, 15, 10, 0, 0, 5, 8, 7], ce_m140), (0, 2, [(4, 8, 1), (5, 9, 4)], [0, 2, 11, 9, 4, 6], [0, 16, 0, 4, 21, 2, 6, 14], ce_m52), (1, 2, [(5, 7, 4)], [0, 2, 11, 9, 4, 6], [0, 0, 0, 4, 15, 2, 6, 0, 16, 20], ce_m52), (4, 2, [], [0, 2, 11, 9, 4, 6], [0, 0, 0, 4, 0, 2, 6, 14, 16, 20], ce_m52)]) (by decide +kernel) ce_p52 (ce_pc ce_p140 (ce_pc ce_p52 (ce_pc ce_p52 (ce_pc ce_p52 ce_pn))))
def ce_m255 : Nat → Nat → Int := ce_F 6 10 0x91211010441040280201040001241048008200048048
theorem ce_p255 : rk_M 2 ce_m255 := ce_st (b1 := 2) (T := ce_m105) (rem := [(1, 1, 1)]) (rows := [0, 3, 5, 6, 8, 10]) (cols := [11, 0, 13, 5, 9, 16, 18, 7, 3, 14]) (L := [(1, 2, [(3, 5, 1), (5, 7, 6), (5, 8, 5)], [0, 2, 6, 5, 8], [17, 0, 5, 2, 12, 9, 15, 0, 0, 11], ce_m15), (5, 1, [(3, 5, 1), (4, 4, 2), (5, 9, 6)], [0, 2, 4, 7, 8], [12, 0, 8, 6, 0, 0, 4, 10, 2], ce_m13), (6, 1, [(3, 5, 1), (4, 2, 0)], [0, 2, 4, 7, 8], [12, 0, 0, 6, 8, 0, 0, 10, 2, 5], ce_m13), (2, 1, [(3, 5, 1)], [0, 2, 4, 7, 8], [12, 0, 0, 6, 8, 0, 0, 10, 2, 5], ce_m13)]) (by decide +kernel) ce_p105 (ce_pc ce_p15 (ce_pc ce_p13 (ce_pc ce_p13 (ce_pc ce_p13 ce_pn))))
def ce_m256 : Nat → Nat → Int := ce_F 6 10 0x5128101004a040200448200040248040201040201009
theorem ce_p256 : rk_M 2 ce_m256 := ce_st (b1 := 2) (T := ce_m74) (rem := [(1, 0, 1), (4, 3, 1), (1, 7, 5)]) (rows := [0, 4, 2, 8, 10, 6]) (cols := [0, 6, 4, 0, 19, 14, 8, 0, 10, 16]) (L := [(0, 2, [(5, 5, 4), (5, 8, 7)], [0, 8, 3, 5, 11, 7], [0, 5, 9, 3, 11, 0, 7, 16, 0, 15], ce_m53), (7, 2, [(4, 9, 4)], [0, 4, 10, 9, 2, 6], [0, 18, 4, 17, 7, 2, 8, 0, 10], ce_m74), (1, 2, [(5, 6, 4)], [0, 9, 2, 4, 10, 6], [0, 0, 8, 2, 7, 11, 0, 0, 16, 14], ce_m53), (4, 2, [], [0, 9, 2, 4, 10, 6], [0, 0, 8, 2, 0, 11, 6, 0, 16, 14], ce_m53)]) (by decide +kernel) ce_p74 (ce_pc ce_p53 (ce_pc ce_p74 (ce_pc ce_p53 (ce_pc ce_p53 ce_pn))))
def ce_m257 : Nat → Nat → Int := ce_F 6 10 0x412448009040440040448200200288001201040001209
theorem ce_p257 : rk_M 2 ce_m257 := ce_st (b1 := 2) (T := ce_m101) (rem := [(1, 0, 1)]) (rows := [0, 3, 4, 8, 7, 10]) (cols := [0, 8, 3, 10, 18, 7, 5, 12, 15, 17]) (L := [(0, 2, [(5, 5, 4)], [0, 4, 3, 9, 6, 11], [0, 7, 2, 5, 15, 0, 12, 9, 10, 16], ce_m75), (1, 2, [(5, 7, 4), (5, 9, 3)], [0, 2, 5, 10, 6, 9], [0, 0, 4, 17, 10, 12, 2, 0, 18], ce_m61), (4, 2, [], [0, 2, 10, 5, 8, 7], [0, 0, 12, 21, 0, 4, 2, 18, 11, 16], ce_m61), (3, 2, [], [0, 2, 5, 10, 6, 9], [0, 0, 4, 0, 0, 12, 2, 11, 18, 16], ce_m61)]) (by decide +kernel) ce_p101 (ce_pc ce_p75 (ce_pc ce_p61 (ce_pc ce_p61 (ce_pc ce_p61 ce_pn))))
def ce_m258 : Nat → Nat → Int := ce_F 6 10 0x281440010488200440201208240009001041200008209
theorem ce_p258 : rk_M 2 ce_m258 := ce_st (b1 := 2) (T := ce_m55) (rem := [(1, 0, 2), (1, 3, 4)]) (rows := [0, 4, 2, 6, 9, 10]) (cols := [0, 8, 6, 0, 16, 14, 10, 4, 18, 12]) (L := [(0, 2, [(3, 4, 2), (4, 2, 1), (1, 3, 2), (1, 7, 2), (5, 9, 5)], [0, 2, 6, 4, 0, 8], [0, 2, 0, 0, 8, 12, 6, 0, 14], ce_m16), (3, 2, [(3, 4, 2), (1, 7, 2), (4, 8, 5)], [0, 2, 4, 6, 0, 9], [0, 2, 8, 0, 11, 4, 7, 0, 0, 15], ce_m21), (1, 2, [(3, 4, 2), (5, 6, 5), (1, 7, 2)], [0, 2, 6, 4, 0, 8], [0, 0, 2, 0, 8, 7, 0, 0, 14, 13], ce_m16), (5, 2, [(3, 4, 2), (1, 7, 2)], [0, 2, 6, 4, 0, 8], [0, 0, 2, 0, 8, 0, 6, 0, 14, 13], ce_m16)]) (by decide +kernel) ce_p55 (ce_pc ce_p16 (ce_pc ce_p21 (ce_pc ce_p16 (ce_pc ce_p16 ce_pn))))
def ce_m259 : Nat → Nat → Int := ce_F 6 10 0x8a202048041048200208240002281041001200208009
theorem ce_p259 : rk_M 2 ce_m259 := ce_st (b1 := 2) (T := ce_m103) (rem := [(1, 7, 5)]) (rows := [0, 5, 2, 10, 7, 8]) (cols := [10, 15, 3, 6, 5, 18, 13, 0, 9, 17]) (L := [(7, 2, [(3, 5, 1), (4, 3, 0), (1, 5, 3), (1, 8, 1)], [0, 6, 3, 5, 8], [3, 13, 6, 0, 8, 0, 16, 0, 0, 15], ce_m16), (5, 2, [(3, 5, 1), (1, 0, 2), (4, 6, 1), (1, 8, 1)], [0, 2, 7, 5, 8], [0, 8, 6, 11, 16, 0, 0, 0, 0, 15], ce_m16), (0, 2, [(3, 5, 1), (4, 2, 1), (1, 8, 1)], [0, 2, 7, 5, 8], [0, 6, 0, 11, 16, 0, 8, 0, 0, 15], ce_m16), (1, 2, [(3, 5, 1), (1, 8, 1)], [0, 2, 7, 5, 8], [0, 0, 6, 11, 16, 0, 8, 0, 0, 15], ce_m16)]) (by decide +kernel) ce_p103 (ce_pc ce_p16 (ce_pc ce_p16 (ce_pc ce_p16 (ce_pc ce_p16 ce_pn))))
def ce_m260 : Nat → Nat → Int := ce_F 6 10 0x481408008488040240240040241009001048040008049
theorem ce_p260 : rk_M 2 ce_m260 := ce_st (b1 := 2) (T := ce_m53) (rem := [(1, 1, 2), (1, 2, 4), (4, 4, 0), (4, 9, 5)]) (rows := [0, 11, 7, 3, 9, 4]) (cols := [7, 0, 0, 14, 0, 5, 10, 17, 3]) (L := [(1, 2, [(5, 7, 2)], [0, 4, 2, 6, 9, 10], [6, 0, 5, 16, 8, 13, 10, 0, 18, 14], ce_m55), (2, 2, [(4, 8, 5)], [0, 10, 6, 2, 8, 5], [8, 0, 0, 15, 6, 2, 11, 16, 0, 4], ce_m53), (0, 2, [(5, 6, 5)], [0, 11, 7, 3, 9, 4], [0, 0, 0, 14, 7, 11, 0, 17, 3, 5], ce_m53), (5, 2, [], [0, 11, 7, 3, 9, 4], [0, 0, 0, 14, 7, 0, 10, 17, 3, 5], ce_m53)]) (by decide +kernel) ce_p53 (ce_pc ce_p55 (ce_pc ce_p53 (ce_pc ce_p53 (ce_pc ce_p53 ce_pn))))
def ce_m261 : Nat → Nat → Int := ce_F 6 10 0x442288008241008048208200041048000208240002281
theorem ce_p261 : rk_M 2 ce_m261 := ce_st (b1 := 2) (T := ce_m55) (rem := [(1, 0, 1), (1, 2, 2), (4, 5, 3), (4, 6, 4)]) (rows := [0, 2, 8, 4, 10, 6]) (cols := [0, 10, 0, 8, 15, 0, 0, 16, 6, 19]) (L := [(0, 2, [(4, 8, 3)], [0, 2, 8, 4, 10, 6], [0, 10, 4, 6, 12, 8, 15, 16, 0, 19], ce_m55), (2, 2, [(4, 9, 4)], [0, 8, 2, 10, 4, 7], [0, 10, 0, 12, 6, 15, 8, 16, 19], ce_m55), (3, 2, [(4, 4, 1)], [0, 2, 8, 4, 10, 6], [0, 10, 0, 0, 0, 8, 15, 16, 6, 19], ce_m55), (4, 2, [], [0, 2, 8, 4, 10, 6], [0, 10, 0, 0, 0, 8, 15, 16, 6, 19], ce_m55)]) (by decide +kernel) ce_p55 (ce_pc ce_p55 (ce_pc ce_p55 (ce_pc ce_p55 (ce_pc ce_p55 ce_pn))))
def ce_m262 : Nat → Nat → Int := ce_F 6 10 0x40a441001081240240280200001241001200240200049
theorem ce_p262 : rk_M 2 ce_m262 := ce_st (b1 := 2) (T := ce_m104) (rem := [(1, 7, 5)]) (rows := [0, 2, 4, 8, 6, 11]) (cols := [2, 4, 12, 6, 14, 10, 8, 0, 16, 18]) (L := [(7, 2, [(4, 3, 2), (4, 5, 1)], [0, 5, 8, 11, 2, 6], [7, 11, 4, 0, 8, 0, 3, 0, 14, 17], ce_m91), (0, 2, [(5, 6, 2)], [0, 4, 9, 10, 3, 7], [0, 18, 3, 5, 9, 10, 0, 0, 15, 16], ce_m91), (1, 2, [], [0, 4, 3, 10, 7, 9], [0, 0, 3, 5, 11, 8, 6, 0, 13, 14], ce_m138), (2, 2, [], [0, 2, 4, 8, 7, 11], [0, 0, 0, 8, 12, 6, 4, 0, 11, 18], ce_m85)]) (by decide +kernel) ce_p104 (ce_pc ce_p91 (ce_pc ce_p91 (ce_pc ce_p138 (ce_pc ce_p85 ce_pn))))
def ce_m263 : Nat → Nat → Int := ce_F 6 10 0x20a288009011081080288008000281008201200041009
theorem ce_p263 : rk_M 2 ce_m263 := ce_st (b1 := 2) (T := ce_m125) (rem := [(1, 1, 1), (1, 6, 5)]) (rows := [0, 3, 6, 5, 10, 9]) (cols := [16, 0, 5, 9, 10, 3, 0, 7, 14, 13]) (L := [(1, 2, [(5, 2, 0), (5, 5, 4), (5, 7, 6)], [0, 9, 2, 10, 4, 6], [2, 0, 0, 6, 20, 0, 17, 0, 14, 4], ce_m52), (6, 2, [(4, 8, 4), (4, 9, 0)], [0, 9, 2, 10, 4, 6], [4, 0, 3, 6, 14, 21, 0, 16], ce_m52), (0, 2, [(5, 4, 3)], [0, 9, 2, 10, 4, 6], [0, 0, 3, 6, 0, 21, 0, 16, 14, 4], ce_m52), (4, 2, [], [0, 9, 2, 10, 4, 6], [0, 0, 3, 6, 0, 21, 0, 16, 14, 4], ce_m52)]) (by decide +kernel) ce_p125 (ce_pc ce_p52 (ce_pc ce_p52 (ce_pc ce_p52 (ce_pc ce_p52 ce_pn))))
def ce_m264 : Nat → Nat → Int := ce_F 6 10 0x241041208208209200048200440440080280040000049
theorem ce_p264 : rk_M 2 ce_m264 := ce_st (b1 := 2) (T := ce_m50) (rem := [(4, 5, 0), (4, 6, 2), (4, 9, 1)]) (rows := [0, 6, 5, 10, 2, 9]) (cols := [4, 14, 7, 12, 17, 0, 0, 2, 9]) (L := [(0, 2, [(4, 4, 1)], [0, 11, 9, 2, 4, 6], [0, 6, 21, 2, 0, 14, 16, 10, 12, 4], ce_m52), (2, 2, [(4, 3, 1)], [0, 6, 5, 10, 2, 9], [0, 12, 0, 0, 17, 4, 7, 2, 9, 14], ce_m50), (1, 2, [], [0, 6, 5, 10, 2, 9], [0, 0, 0, 12, 17, 4, 7, 2, 9, 14], ce_m50)]) (by decide +kernel) ce_p50 (ce_pc ce_p52 (ce_pc ce_p50 (ce_pc ce_p50 ce_pn)))
def ce_m265 : Nat → Nat → Int := ce_F 6 10 0x490280209081040048048040241201000249000000009
theorem ce_p265 : rk_M 2 ce_m265 := ce_st (b1 := 2) (T := ce_m89) (rem := [(1, 1, 5)]) (rows := [0, 2, 8, 10, 4, 6]) (cols := [14, 0, 2, 6, 8, 4, 13, 19, 16, 10]) (L := [(1, 2, [(4, 7, 0)], [0, 10, 6, 2, 8, 5], [4, 0, 18, 6, 8, 15, 16, 0, 2, 10], ce_m52), (0, 2, [], [0, 10, 6, 2, 8, 5], [0, 0, 18, 6, 8, 15, 16, 4, 2, 10], ce_m52)]) (by decide +kernel) ce_p89 (ce_pc ce_p52 (ce_pc ce_p52 ce_pn))
def ce_m266 : Nat → Nat → Int := ce_F 6 10 0x482401001282008408009208049001001248000000049
theorem ce_p266 : rk_M 2 ce_m266 := ce_st (b1 := 2) (T := ce_m132) (rem := [(1, 0, 2), (4, 7, 1)]) (rows := [0, 5, 9, 3, 7, 10]) (cols := [0, 5, 15, 3, 7, 13, 9, 0, 17, 10]) (L := [(0, 2, [(5, 9, 2)], [0, 2, 8, 4, 11, 7], [0, 16, 6, 2, 14, 4, 8, 10, 12], ce_m127), (1, 2, [(5, 8, 2)], [0, 8, 4, 7, 11, 3], [0, 0, 9, 11, 14, 4, 6, 13, 0, 2], ce_m87), (2, 2, [], [0, 8, 4, 7, 11, 3], [0, 0, 0, 11, 14, 4, 6, 13, 8, 2], ce_m87)]) (by decide +kernel) ce_p132 (ce_pc ce_p127 (ce_pc ce_p87 (ce_pc ce_p87 ce_pn)))
def ce_m267 : Nat → Nat → Int := ce_F 6 10 0x488450000280288001450008000288040201040201009
theorem ce_p267 : rk_M 2 ce_m267 := ce_st (b1 := 2) (T := ce_m66) (rem := [(1, 0, 1)]) (rows := [0, 3, 6, 4, 9, 10]) (cols := [0, 16, 9, 11, 14, 3, 6, 20, 13, 19]) (L := [(0, 2, [(5, 2, 1), (5, 5, 4)], [0, 10, 3, 4, 7, 8], [0, 9, 0, 3, 12, 0, 10, 19, 17, 7], ce_m74), (1, 2, [(5, 4, 3), (5, 9, 7)], [0, 3, 10, 8, 6, 4], [0, 0, 7, 11, 0, 5, 17, 14, 3], ce_m53), (4, 2, [(5, 7, 6)], [0, 3, 10, 8, 6, 4], [0, 0, 7, 11, 0, 5, 17, 0, 3, 15], ce_m53), (7, 2, [], [0, 3, 10, 8, 6, 4], [0, 0, 7, 11, 0, 5, 17, 0, 3, 15], ce_m53)]) (by decide +kernel) ce_p66 (ce_pc ce_p74 (ce_pc ce_p53 (ce_pc ce_p53 (ce_pc ce_p53 ce_pn))))
def ce_m268 : Nat → Nat → Int := ce_F 6 10 0x241041050212008048001240041201000248040000049
theorem ce_p268 : rk_M 2 ce_m268 := ce_st (b1 := 2) (T := ce_m54) (rem := [(4, 7, 1), (4, 8, 2)]) (rows := [0, 4, 8, 2, 10, 6]) (cols := [4, 8, 2, 6, 14, 10, 16, 0, 0, 18]) (L := [(1, 2, [(4, 4, 0), (4, 9, 2)], [0, 3, 7, 8, 4, 11], [11, 0, 19, 5, 0, 3, 21, 6, 22], ce_m50), (2, 2, [(4, 3, 0)], [0, 3, 7, 8, 4, 11], [5, 0, 0, 0, 11, 3, 21, 6, 22, 19], ce_m50), (0, 2, [], [0, 3, 7, 8, 4, 11], [0, 0, 0, 5, 11, 3, 21, 6, 22, 19], ce_m50)]) (by decide +kernel) ce_p54 (ce_pc ce_p50 (ce_pc ce_p50 (ce_pc ce_p50 ce_pn)))
def ce_m269 : Nat → Nat → Int := ce_F 6 10 0x212440012240040250010200040448008208040001049
theorem ce_p269 : rk_M 2 ce_m269 := ce_st (b1 := 2) (T := ce_m88) (rem := [(1, 0, 1), (1, 4, 5)]) (rows := [0, 3, 8, 6, 11, 4]) (cols := [0, 14, 18, 7, 0, 3, 13, 5, 16, 10]) (L := [(0, 2, [(5, 3, 1), (5, 5, 4)], [0, 6, 4, 10, 8, 3], [0, 8, 6, 0, 5, 0, 2, 10, 19, 15], ce_m83), (4, 2, [(4, 6, 2)], [0, 3, 4, 8, 7, 10], [0, 12, 8, 3, 0, 7, 0, 5, 14, 16], ce_m116), (1, 2, [(5, 8, 2)], [0, 3, 4, 6, 9, 10], [0, 0, 11, 5, 0, 9, 14, 7, 0, 16], ce_m81), (2, 2, [], [0, 3, 4, 6, 9, 10], [0, 0, 0, 5, 0, 9, 14, 7, 10, 16], ce_m81)]) (by decide +kernel) ce_p88 (ce_pc ce_p83 (ce_pc ce_p116 (ce_pc ce_p81 (ce_pc ce_p81 ce_pn))))
def ce_m270 : Nat → Nat → Int := ce_F 6 10 0x44a00120804820104004124020a200001008240000049
theorem ce_p270 : rk_M 2 ce_m270 := ce_st (b1 := 2) (T := ce_m113) (rem := [(4, 8, 2)]) (rows := [0, 6, 5, 2, 8, 10]) (cols := [4, 6, 10, 9, 2, 13, 16, 15, 0, 18]) (L := [(2, 2, [(1, 1, 1), (4, 6, 0)], [0, 2, 4, 6, 10, 9], [8, 0, 0, 6, 11, 18, 0, 12, 14, 22], ce_m51), (0, 2, [(5, 9, 1)], [0, 2, 4, 6, 10, 9], [0, 23, 0, 6, 11, 18, 8, 12, 14], ce_m51), (1, 2, [], [0, 2, 4, 6, 10, 9], [0, 0, 0, 6, 11, 18, 8, 12, 14, 22], ce_m51)]) (by decide +kernel) ce_p113 (ce_pc ce_p51 (ce_pc ce_p51 (ce_pc ce_p51 ce_pn)))
def ce_m271 : Nat → Nat → Int := ce_F 6 10 0x248011009042008208201041050008008041040000249
theorem ce_p271 : rk_M 2 ce_m271 := ce_st (b1 := 2) (T := ce_m50) (rem := [(1, 3, 5), (4, 6, 1), (4, 7, 2)]) (rows := [0, 4, 7, 2, 9, 10]) (cols := [2, 9, 12, 0, 6, 4, 0, 0, 17, 14]) (L := [(3, 2, [(4, 7, 0), (4, 8, 1)], [0, 4, 3, 8, 7, 11], [10, 9, 12, 0, 6, 4, 3, 0, 0, 15], ce_m144), (0, 2, [(1, 2, 5)], [0, 10, 8, 6, 4, 2], [0, 20, 0, 0, 15, 16, 10, 6, 2, 4], ce_m52), (1, 2, [], [0, 3, 10, 7, 8, 5], [0, 0, 5, 0, 7, 17, 18, 3, 15, 11], ce_m73), (2, 2, [], [0, 7, 4, 9, 2, 10], [0, 0, 0, 0, 5, 7, 2, 17, 12, 14], ce_m50)]) (by decide +kernel) ce_p50 (ce_pc ce_p144 (ce_pc ce_p52 (ce_pc ce_p73 (ce_pc ce_p50 ce_pn))))
def ce_m272 : Nat → Nat → Int := ce_F 6 10 0x450488000481440001488000208088200041041000209
theorem ce_p272 : rk_M 2 ce_m272 := ce_st (b1 := 2) (T := ce_m116) (rem := [(1, 0, 1), (1, 1, 2), (1, 8, 5)]) (rows := [0, 2, 5, 7, 8, 11]) (cols := [0, 0, 2, 17, 4, 9, 15, 13, 0, 6]) (L := [(0, 2, [(5, 4, 3), (5, 9, 8)], [0, 4, 3, 6, 8, 10], [0, 3, 4, 11, 0, 7, 16, 21, 15], ce_m53), (1, 2, [], [0, 3, 8, 4, 7, 10], [0, 0, 5, 10, 3, 13, 8, 14, 16, 7], ce_m122), (8, 2, [(4, 6, 3)], [0, 8, 3, 10, 4, 6], [0, 0, 2, 15, 20, 7, 0, 5, 0, 17], ce_m52), (3, 2, [], [0, 8, 3, 10, 4, 6], [0, 0, 2, 0, 20, 7, 15, 5, 0, 17], ce_m52)]) (by decide +kernel) ce_p116 (ce_pc ce_p53 (ce_pc ce_p122 (ce_pc ce_p52 (ce_pc ce_p52 ce_pn))))
def ce_m273 : Nat → Nat → Int := ce_F 6 10 0x241041009010440411200208201041001248000000049
theorem ce_p273 : rk_M 2 ce_m273 := ce_st (b1 := 2) (T := ce_m83) (rem := [(1, 0, 2), (1, 1, 3)]) (rows := [0, 5, 3, 6, 10, 9]) (cols := [0, 0, 15, 13, 3, 9, 7, 5, 19, 11]) (L := [(0, 2, [(5, 7, 1), (4, 8, 2)], [0, 2, 6, 8, 5, 10], [0, 17, 15, 2, 6, 4, 20, 0, 0, 11], ce_m53), (1, 2, [(4, 9, 2)], [0, 2, 6, 8, 5, 10], [0, 0, 11, 2, 6, 4, 20, 16, 15], ce_m53), (2, 2, [], [0, 2, 6, 8, 5, 10], [0, 0, 0, 2, 6, 4, 20, 16, 15, 11], ce_m53)]) (by decide +kernel) ce_p83 (ce_pc ce_p53 (ce_pc ce_p53 (ce_pc ce_p53 ce_pn)))
def ce_m274 : Nat → Nat → Int := ce_F 6 10 0x490040208280201240201041048041000248040000049
theorem ce_p274 : rk_M 2 ce_m274 := ce_st (b1 := 2) (T := ce_m97) (rem := [(1, 1, 5)]) (rows := [0, 5, 10, 8, 6, 3]) (cols := [15, 0, 18, 7, 3, 13, 17, 4, 10, 8]) (L := [(1, 2, [(4, 8, 2)], [0, 10, 6, 2, 8, 5], [8, 0, 4, 18, 15, 6, 16, 10, 0, 2], ce_m52), (2, 2, [(4, 3, 0)], [0, 7, 8, 10, 4, 3], [10, 0, 0, 0, 5, 17, 13, 2, 8, 6], ce_m51), (0, 2, [], [0, 7, 8, 10, 4, 3], [0, 0, 0, 10, 5, 17, 13, 2, 8, 6], ce_m51)]) (by decide +kernel) ce_p97 (ce_pc ce_p52 (ce_pc ce_p51 (ce_pc ce_p51 ce_pn)))
def ce_m275 : Nat → Nat → Int := ce_F 6 10 0x44140100120144020a200201200048001041040008209
theorem ce_p275 : rk_M 2 ce_m275 := ce_st (b1 := 2) (T := ce_m88) (rem := [(1, 0, 1), (1, 3, 4), (4, 9, 5)]) (rows := [0, 2, 10, 9, 4, 6]) (cols := [0, 19, 4, 0, 2, 15, 6, 12, 10]) (L := [(0, 2, [(5, 4, 3), (5, 6, 5)], [0, 10, 6, 5, 8, 2], [0, 13, 6, 19, 0, 9, 0, 11, 4, 3], ce_m77), (3, 2, [(4, 7, 1)], [0, 2, 4, 7, 8, 10], [0, 8, 2, 0, 6, 12, 4, 0, 10, 17], ce_m125), (1, 2, [], [0, 7, 9, 5, 3, 10], [0, 0, 11, 0, 5, 18, 8, 3, 15, 13], ce_m83), (5, 2, [], [0, 10, 6, 5, 8, 2], [0, 0, 6, 0, 18, 0, 8, 11, 4, 3], ce_m77)]) (by decide +kernel) ce_p88 (ce_pc ce_p77 (ce_pc ce_p125 (ce_pc ce_p83 (ce_pc ce_p77 ce_pn))))
def ce_m276 : Nat → Nat → Int := ce_F 6 10 0x24008124849004004900804000a408001048040000049
theorem ce_p276 : rk_M 2 ce_m276 := ce_st (b1 := 2) (T := ce_m113) (rem := [(4, 9, 2)]) (rows := [0, 6, 3, 8, 4, 11]) (cols := [16, 11, 14, 4, 6, 3, 9, 13, 18]) (L := [(1, 2, [(4, 3, 0), (5, 5, 2)], [0, 10, 9, 2, 5, 6], [8, 0, 13, 0, 17, 0, 6, 2, 4, 11], ce_m51), (2, 2, [(4, 6, 0)], [0, 10, 9, 2, 5, 6], [6, 0, 0, 8, 17, 12, 0, 2, 4, 11], ce_m51), (0, 2, [], [0, 10, 9, 2, 5, 6], [0, 0, 0, 8, 17, 12, 6, 2, 4, 11], ce_m51)]) (by decide +kernel) ce_p113 (ce_pc ce_p51 (ce_pc ce_p51 (ce_pc ce_p51 ce_pn)))
def ce_m277 : Nat → Nat → Int := ce_F 6 10 0x442081008290008440209008201009001248000000049
theorem ce_p277 : rk_M 2 ce_m277 := ce_st (b1 := 2) (T := ce_m53) (rem := [(1, 0, 2), (4, 7, 1), (4, 8, 2)]) (rows := [0, 2, 6, 4, 9, 11]) (cols := [0, 16, 14, 2, 6, 4, 20, 0, 0, 11]) (L := [(0, 2, [(1, 1, 4)], [0, 4, 2, 10, 6, 9], [0, 0, 15, 12, 2, 8, 6, 4, 19, 10], ce_m83), (1, 2, [(5, 9, 2)], [0, 2, 6, 4, 9, 11], [0, 0, 10, 2, 6, 4, 20, 16, 14], ce_m53), (2, 2, [], [0, 2, 6, 4, 9, 11], [0, 0, 0, 2, 6, 4, 20, 16, 14, 11], ce_m53)]) (by decide +kernel) ce_p53 (ce_pc ce_p83 (ce_pc ce_p53 (ce_pc ce_p53 ce_pn)))
def ce_m278 : Nat → Nat → Int := ce_F 6 10 0x442081011008240212400200249001001248000000049
theorem ce_p278 : rk_M 2 ce_m278 := ce_st (b1 := 2) (T := ce_m53) (rem := [(1, 0, 2), (1, 1, 3), (4, 8, 2)]) (rows := [0, 10, 6, 8, 5, 3]) (cols := [0, 0, 3, 15, 6, 11, 8, 16, 0, 4]) (L := [(0, 2, [(5, 7, 1)], [0, 2, 6, 5, 8, 11], [0, 11, 19, 6, 8, 2, 4, 0, 16, 13], ce_m74), (1, 2, [(5, 9, 2)], [0, 10, 6, 8, 5, 3], [0, 0, 5, 15, 6, 11, 8, 16, 3], ce_m53), (2, 2, [], [0, 10, 6, 8, 5, 3], [0, 0, 0, 15, 6, 11, 8, 16, 3, 4], ce_m53)]) (by decide +kernel) ce_p53 (ce_pc ce_p74 (ce_pc ce_p53 (ce_pc ce_p53 ce_pn)))
def ce_m279 : Nat → Nat → Int := ce_F 6 10 0x21248100a082040040450200201408001208040000049
theorem ce_p279 : rk_M 2 ce_m279 := ce_st (b1 := 2) (T := ce_m52) (rem := [(1, 0, 1), (4, 9, 2)]) (rows := [0, 3, 8, 4, 10, 6]) (cols := [0, 10, 12, 3, 20, 5, 7, 17, 14]) (L := [(0, 2, [(5, 3, 1), (5, 6, 2)], [0, 3, 10, 6, 8, 4], [0, 6, 2, 0, 21, 5, 0, 15, 16, 10], ce_m52), (1, 2, [(5, 4, 2)], [0, 3, 10, 6, 8, 4], [0, 0, 20, 7, 0, 5, 3, 15, 16, 10], ce_m52), (2, 2, [], [0, 3, 10, 6, 8, 4], [0, 0, 0, 7, 21, 5, 3, 15, 16, 10], ce_m52)]) (by decide +kernel) ce_p52 (ce_pc ce_p52 (ce_pc ce_p52 (ce_pc ce_p52 ce_pn)))
def ce_m280 : Nat → Nat → Int := ce_F 6 10 0x490440009240200001448001008088008009040001209
theorem ce_p280 : rk_M 2 ce_m280 := ce_st (b1 := 2) (T := ce_m88) (rem := [(1, 0, 1), (1, 1, 2)]) (rows := [0, 2, 5, 6, 8, 10]) (cols := [0, 0, 2, 6, 16, 11, 14, 8, 13, 18]) (L := [(0, 2, [(5, 2, 1), (4, 6, 3)], [0, 3, 4, 6, 9, 10], [0, 2, 0, 10, 6, 14, 0, 9, 16, 19], ce_m78), (1, 2, [(5, 5, 4)], [0, 4, 7, 2, 8, 10], [0, 0, 10, 2, 8, 0, 6, 12, 19, 16], ce_m74), (4, 2, [(4, 7, 3)], [0, 6, 3, 4, 8, 10], [0, 0, 4, 16, 0, 13, 6, 0, 15, 22], ce_m50), (3, 2, [], [0, 6, 3, 4, 8, 10], [0, 0, 4, 0, 0, 13, 6, 16, 15, 22], ce_m50)]) (by decide +kernel) ce_p88 (ce_pc ce_p78 (ce_pc ce_p74 (ce_pc ce_p50 (ce_pc ce_p50 ce_pn))))
def ce_m281 : Nat → Nat → Int := ce_F 6 10 0x248281010041488240201000248008000009040001009
theorem ce_p281 : rk_M 2 ce_m281 := ce_st (b1 := 2) (T := ce_m62) (rem := [(1, 0, 1), (4, 6, 1)]) (rows := [0, 2, 4, 6, 9, 10]) (cols := [0, 10, 4, 8, 21, 6, 0, 16, 18, 12]) (L := [(0, 2, [], [0, 5, 2, 7, 8, 11], [0, 2, 5, 13, 16, 7, 8, 11, 15, 19], ce_m92), (1, 2, [(5, 7, 4)], [0, 2, 4, 6, 9, 10], [0, 0, 4, 8, 17, 6, 10, 0, 18, 12], ce_m62), (4, 2, [], [0, 2, 4, 6, 9, 10], [0, 0, 4, 8, 0, 6, 10, 16, 18, 12], ce_m62)]) (by decide +kernel) ce_p62 (ce_pc ce_p92 (ce_pc ce_p62 (ce_pc ce_p62 ce_pn)))
def ce_m282 : Nat → Nat → Int := ce_F 6 10 0x45220000a202200040041200200209001041200008209
theorem ce_p282 : rk_M 2 ce_m282 := ce_st (b1 := 2) (T := ce_m110) (rem := [(1, 0, 2), (1, 5, 5)]) (rows := [0, 4, 6, 10, 8, 3]) (cols := [0, 6, 10, 12, 18, 0, 4, 2, 17, 8]) (L := [(0, 2, [(4, 2, 1), (1, 3, 4)], [0, 5, 7, 3, 10, 8], [0, 3, 0, 0, 13, 8, 7, 17, 15, 23], ce_m50), (5, 2, [(4, 7, 3)], [0, 7, 3, 5, 9, 10], [0, 3, 7, 5, 9, 0, 13, 0, 11, 15], ce_m142), (3, 2, [(0, 2, 7), (4, 4, 1), (4, 9, 7)], [0, 6, 0, 2, 4, 9], [0, 2, 8, 0, 0, 0, 16, 10, 7], ce_m14), (1, 2, [(0, 2, 7), (4, 9, 7)], [0, 6, 0, 2, 4, 9], [0, 0, 8, 0, 2, 0, 16, 10, 7], ce_m14)]) (by decide +kernel) ce_p110 (ce_pc ce_p50 (ce_pc ce_p142 (ce_pc ce_p14 (ce_pc ce_p14 ce_pn))))
def ce_m283 : Nat → Nat → Int := ce_F 6 10 0x291001208049008040050200041408008208040000049
theorem ce_p283 : rk_M 2 ce_m283 := ce_st (b1 := 2) (T := ce_m87) (rem := [(1, 0, 1), (1, 2, 5)]) (rows := [0, 7, 4, 2, 8, 10]) (cols := [0, 6, 0, 3, 4, 11, 14, 13, 8, 18]) (L := [(0, 2, [(5, 7, 2)], [0, 11, 2, 6, 4, 8], [0, 8, 18, 7, 4, 14, 2, 0, 16, 10], ce_m52), (2, 2, [(4, 4, 1)], [0, 6, 10, 8, 2, 4], [0, 8, 0, 16, 0, 4, 6, 11, 13, 2], ce_m51), (1, 2, [], [0, 6, 10, 8, 2, 4], [0, 0, 0, 16, 8, 4, 6, 11, 13, 2], ce_m51)]) (by decide +kernel) ce_p87 (ce_pc ce_p52 (ce_pc ce_p51 (ce_pc ce_p51 ce_pn)))
def ce_m284 : Nat → Nat → Int := ce_F 6 10 0x492440000401240009200208040202040201040001248
theorem ce_p284 : rk_M 2 ce_m284 := ce_st (b1 := 2) (T := ce_m114) (rem := [(1, 1, 3)]) (rows := [0, 5, 7, 3, 8, 10]) (cols := [11, 0, 9, 13, 18, 5, 3, 7, 15, 17]) (L := [(1, 2, [(5, 7, 4)], [0, 5, 7, 8, 3, 11], [9, 0, 3, 7, 5, 16, 14, 0, 12, 10], ce_m130), (2, 2, [(0, 4, 7), (5, 3, 0), (5, 8, 4)], [0, 3, 4, 7, 0, 8], [3, 0, 0, 0, 8, 7, 12, 17, 0, 14], ce_m16), (3, 2, [(0, 4, 7), (5, 9, 4)], [0, 3, 4, 7, 0, 8], [3, 0, 0, 0, 15, 7, 12, 17, 9], ce_m16), (4, 2, [(0, 4, 7)], [0, 3, 4, 7, 0, 8], [3, 0, 0, 0, 0, 7, 12, 17, 9, 14], ce_m16)]) (by decide +kernel) ce_p114 (ce_pc ce_p130 (ce_pc ce_p16 (ce_pc ce_p16 (ce_pc ce_p16 ce_pn))))
def ce_m285 : Nat → Nat → Int := ce_F 6 10 0x44a440008048040048041000440401080208210001009
theorem ce_p285 : rk_M 2 ce_m285 := ce_st (b1 := 2) (T := ce_m134) (rem := [(1, 0, 2), (1, 1, 1)]) (rows := [0, 3, 4, 6, 8, 10]) (cols := [0, 0, 4, 7, 14, 11, 8, 13, 2, 16]) (L := [(0, 2, [(4, 3, 1), (4, 7, 4), (4, 9, 6)], [0, 5, 11, 6, 9, 2], [0, 17, 18, 0, 6, 3, 9, 0, 4], ce_m67), (1, 2, [(4, 8, 4), (4, 9, 5)], [0, 5, 11, 6, 9, 2], [0, 0, 18, 17, 4, 3, 9, 6], ce_m67), (4, 2, [(4, 9, 2)], [0, 5, 11, 6, 9, 2], [0, 0, 18, 17, 0, 3, 9, 6, 4], ce_m67), (9, 2, [], [0, 5, 11, 6, 9, 2], [0, 0, 18, 17, 0, 3, 9, 6, 4], ce_m67)]) (by decide +kernel) ce_p134 (ce_pc ce_p67 (ce_pc ce_p67 (ce_pc ce_p67 (ce_pc ce_p67 ce_pn))))
def ce_m286 : Nat → Nat → Int := ce_F 6 10 0x40a480209009001040248040210440001041040000009
theorem ce_p286 : rk_M 2 ce_m286 := ce_st (b1 := 2) (T := ce_m60) (rem := [(1, 1, 5)]) (rows := [0, 7, 3, 10, 8, 5]) (cols := [17, 0, 5, 8, 14, 6, 10, 3, 20, 12]) (L := [(1, 2, [(4, 4, 0)], [0, 3, 11, 5, 9, 6], [5, 0, 9, 11, 0, 15, 3, 18, 7, 17], ce_m54), (0, 2, [], [0, 3, 11, 5, 9, 6], [0, 0, 9, 11, 5, 15, 3, 18, 7, 17], ce_m54)]) (by decide +kernel) ce_p60 (ce_pc ce_p54 (ce_pc ce_p54 ce_pn))
def ce_m287 : Nat → Nat → Int := ce_F 6 10 0x250401009090040008248000049008040009040000049
theorem ce_p287 : rk_M 2 ce_m287 := ce_st (b1 := 2) (T := ce_m53) (rem := [(1, 0, 1), (1, 1, 2), (4, 8, 2)]) (rows := [0, 2, 8, 4, 6, 10]) (cols := [0, 0, 6, 2, 12, 10, 17, 14, 0, 18]) (L := [(0, 2, [(4, 9, 2)], [0, 6, 4, 2, 9, 11], [0, 10, 21, 4, 2, 6, 12, 8, 16], ce_m60), (1, 2, [], [0, 2, 8, 4, 6, 10], [0, 0, 8, 2, 12, 10, 17, 14, 6, 18], ce_m53), (2, 2, [], [0, 2, 8, 4, 6, 10], [0, 0, 0, 2, 12, 10, 17, 14, 6, 18], ce_m53)]) (by decide +kernel) ce_p53 (ce_pc ce_p60 (ce_pc ce_p53 (ce_pc ce_p53 ce_pn)))
def ce_m288 : Nat → Nat → Int := ce_F 6 10 0x481288008401408048009040040240000200240001009
theorem ce_p288 : rk_M 2 ce_m288 := ce_st (b1 := 2) (T := ce_m63) (rem := [(4, 9, 4)]) (rows := [0, 2, 5, 8, 6, 11]) (cols := [6, 4, 9, 11, 18, 12, 15, 17, 20]) (L := [(0, 2, [(5, 7, 1)], [0, 5, 2, 10, 7, 8], [0, 19, 10, 4, 8, 15, 2, 0, 21, 17], ce_m65), (1, 2, [(5, 5, 4), (0, 1, 4), (1, 4, 5)], [0, 0, 4, 2, 8, 7], [0, 0, 8, 4, 0, 0, 16, 14, 2, 12], ce_m15), (4, 2, [(0, 1, 5), (1, 5, 5)], [0, 0, 4, 2, 8, 7], [0, 0, 8, 4, 0, 0, 16, 14, 2, 12], ce_m15)]) (by decide +kernel) ce_p63 (ce_pc ce_p65 (ce_pc ce_p15 (ce_pc ce_p15 ce_pn)))
def ce_m289 : Nat → Nat → Int := ce_F 6 10 0x441400208208041048081000050408000248040000049
theorem ce_p289 : rk_M 2 ce_m289 := ce_st (b1 := 2) (T := ce_m50) (rem := [(4, 6, 1), (4, 7, 2)]) (rows := [0, 4, 3, 9, 10, 7]) (cols := [18, 5, 23, 2, 6, 10, 0, 0, 9, 20]) (L := [(0, 2, [(5, 4, 2), (5, 5, 1)], [0, 7, 2, 8, 11, 4], [0, 10, 8, 5, 0, 0, 2, 22, 6, 19], ce_m50), (1, 2, [], [0, 5, 8, 11, 3, 6], [0, 0, 13, 7, 11, 5, 16, 9, 18, 3], ce_m54), (2, 2, [], [0, 7, 2, 8, 11, 4], [0, 0, 0, 5, 9, 11, 2, 22, 6, 19], ce_m50)]) (by decide +kernel) ce_p50 (ce_pc ce_p50 (ce_pc ce_p54 (ce_pc ce_p50 ce_pn)))
def ce_m290 : Nat → Nat → Int := ce_F 6 10 0x490240009240008001240201002440008408040000049
theorem ce_p290 : rk_M 2 ce_m290 := ce_st (b1 := 2) (T := ce_m78) (rem := [(1, 0, 1), (1, 2, 2), (4, 6, 1)]) (rows := [0, 3, 4, 6, 9, 10]) (cols := [0, 10, 0, 3, 15, 6, 0, 9, 16, 19]) (L := [(0, 2, [(5, 3, 2)], [0, 5, 2, 7, 8, 11], [0, 12, 2, 0, 7, 14, 11, 17, 8, 18], ce_m78), (2, 2, [], [0, 2, 5, 7, 8, 11], [0, 12, 0, 2, 14, 7, 11, 8, 17, 18], ce_m78), (1, 2, [], [0, 3, 4, 6, 9, 10], [0, 0, 0, 3, 15, 6, 10, 9, 16, 19], ce_m78)]) (by decide +kernel) ce_p78 (ce_pc ce_p78 (ce_pc ce_p78 (ce_pc ce_p78 ce_pn)))
def ce_m291 : Nat → Nat → Int := ce_F 6 10 0x249200212401000001240200410440082008040000049
theorem ce_p291 : rk_M 2 ce_m291 := ce_st (b1 := 2) (T := ce_m134) (rem := [(1, 0, 1), (1, 2, 2)]) (rows := [0, 3, 4, 6, 8, 10]) (cols := [0, 14, 0, 7, 4, 13, 2, 9, 10, 17]) (L := [(0, 2, [(5, 3, 2), (4, 6, 1)], [0, 3, 4, 6, 9, 10], [0, 6, 2, 0, 10, 15, 0, 17, 8, 18], ce_m78), (2, 2, [(4, 5, 1)], [0, 3, 4, 6, 9, 10], [0, 15, 0, 3, 10, 0, 6, 17, 8, 18], ce_m78), (1, 2, [], [0, 3, 4, 6, 9, 10], [0, 0, 0, 3, 10, 15, 6, 17, 8, 18], ce_m78)]) (by decide +kernel) ce_p134 (ce_pc ce_p78 (ce_pc ce_p78 (ce_pc ce_p78 ce_pn)))
def ce_m292 : Nat → Nat → Int := ce_F 6 10 0x41101101200a00104101100020a001200048200000049
theorem ce_p292 : rk_M 2 ce_m292 := ce_st (b1 := 2) (T := ce_m50) (rem := [(1, 1, 1), (4, 5, 0), (4, 6, 2)]) (rows := [0, 11, 4, 7, 2, 9]) (cols := [2, 0, 9, 16, 13, 0, 0, 6, 5, 15]) (L := [(1, 2, [(5, 3, 2), (5, 4, 0)], [0, 11, 4, 7, 2, 9], [12, 0, 17, 0, 0, 2, 9, 6, 5, 15], ce_m50), (0, 2, [], [0, 3, 8, 10, 4, 6], [0, 0, 21, 7, 3, 10, 12, 17, 15, 5], ce_m52), (2, 2, [], [0, 11, 4, 7, 2, 9], [0, 0, 0, 16, 13, 2, 9, 6, 5, 15], ce_m50)]) (by decide +kernel) ce_p50 (ce_pc ce_p50 (ce_pc ce_p52 (ce_pc ce_p50 ce_pn)))
def ce_m293 : Nat → Nat → Int := ce_F 6 10 0x208211001001049242000200240041000241000000209
theorem ce_p293 : rk_M 2 ce_m293 := ce_st (b1 := 2) (T := ce_m50) (rem := [(1, 3, 5), (4, 8, 1)]) (rows := [0, 2, 10, 8, 4, 6]) (cols := [18, 6, 10, 0, 2, 4, 23, 20, 0, 8]) (L := [(3, 2, [], [0, 2, 4, 7, 8, 10], [12, 14, 2, 0, 4, 6, 8, 16, 10, 18], ce_m109), (0, 2, [(5, 6, 1)], [0, 2, 10, 8, 6, 4], [0, 22, 10, 0, 4, 2, 0, 18, 8, 6], ce_m50), (1, 2, [], [0, 2, 10, 8, 6, 4], [0, 0, 10, 0, 4, 2, 23, 18, 8, 6], ce_m50)]) (by decide +kernel) ce_p50 (ce_pc ce_p109 (ce_pc ce_p50 (ce_pc ce_p50 ce_pn)))
def ce_m294 : Nat → Nat → Int := ce_F 6 10 0x442208008201048048001200040049000241000000209
theorem ce_p294 : rk_M 2 ce_m294 := ce_st (b1 := 2) (T := ce_m59) (rem := [(1, 0, 2), (1, 3, 5)]) (rows := [0, 2, 4, 10, 8, 6]) (cols := [0, 14, 2, 0, 10, 4, 6, 20, 18, 16]) (L := [(0, 2, [(5, 6, 3), (4, 7, 1)], [0, 2, 4, 8, 6, 10], [0, 16, 4, 11, 2, 8, 0, 0, 20, 18], ce_m54), (3, 2, [], [0, 2, 4, 8, 6, 10], [0, 14, 4, 0, 2, 8, 10, 16, 20, 18], ce_m54), (1, 2, [], [0, 2, 4, 8, 6, 10], [0, 0, 4, 0, 2, 8, 10, 16, 20, 18], ce_m54)]) (by decide +kernel) ce_p59 (ce_pc ce_p54 (ce_pc ce_p54 (ce_pc ce_p54 ce_pn)))
def ce_m295 : Nat → Nat → Int := ce_F 6 9 0x11442008441240401208241009201040248000249
theorem ce_p295 : rk_M 2 ce_m295 := ce_st (b1 := 2) (T := ce_m140) (rem := [(4, 5, 0), (4, 6, 3)]) (rows := [0, 2, 4, 6, 8, 10]) (cols := [2, 4, 6, 10, 8, 0, 0, 12, 14]) (L := [(1, 2, [(4, 4, 2), (5, 7, 3), (5, 8, 0)], [0, 4, 11, 6, 9, 2], [6, 0, 18, 3, 0, 4, 9], ce_m67), (0, 2, [(4, 6, 2)], [0, 2, 9, 4, 7, 10], [0, 0, 15, 7, 2, 8, 0, 10, 13], ce_m139), (3, 2, [(4, 5, 2)], [0, 4, 11, 6, 9, 2], [0, 0, 4, 0, 18, 0, 9, 2, 7], ce_m67), (2, 2, [], [0, 4, 11, 6, 9, 2], [0, 0, 0, 0, 18, 4, 9, 2, 7], ce_m67)]) (by decide +kernel) ce_p140 (ce_pc ce_p67 (ce_pc ce_p139 (ce_pc ce_p67 (ce_pc ce_p67 ce_pn))))
def ce_m296 : Nat → Nat → Int := ce_F 6 9 0x11448201450408001209200051201041008040049
theorem ce_p296 : rk_M 2 ce_m296 := ce_st (b1 := 2) (T := ce_m83) (rem := [(4, 4, 2), (4, 8, 6)]) (rows := [0, 3, 4, 7, 8, 10]) (cols := [5, 6, 8, 3, 0, 11, 18, 15]) (L := [(0, 2, [(5, 3, 1), (5, 6, 5)], [0, 6, 4, 2, 9, 10], [0, 10, 12, 0, 8, 6, 0, 14, 19], ce_m77), (6, 2, [(4, 4, 1)], [0, 3, 4, 7, 8, 11], [0, 8, 6, 3, 0, 5, 0, 11, 12], ce_m145), (1, 2, [(5, 8, 2)], [0, 7, 5, 3, 8, 11], [0, 0, 19, 10, 9, 7, 0, 15], ce_m77), (2, 2, [], [0, 7, 5, 3, 8, 11], [0, 0, 0, 10, 9, 7, 0, 15, 18], ce_m77)]) (by decide +kernel) ce_p83 (ce_pc ce_p77 (ce_pc ce_p145 (ce_pc ce_p77 (ce_pc ce_p77 ce_pn))))
def ce_m297 : Nat → Nat → Int := ce_F 6 9 0x10281441209009001241208042208040208040209
theorem ce_p297 : rk_M 2 ce_m297 := ce_st (b1 := 2) (T := ce_m118) (rem := [(1, 6, 5)]) (rows := [0, 2, 5, 8, 10, 7]) (cols := [10, 7, 2, 17, 13, 4, 0, 15, 8]) (L := [(6, 2, [(3, 5, 1), (1, 3, 3), (4, 4, 1), (4, 5, 0)], [0, 2, 5, 6, 8], [6, 13, 2, 0, 0, 0, 0, 15, 8], ce_m16), (3, 2, [(3, 5, 1), (4, 7, 1), (4, 8, 0)], [0, 2, 5, 6, 8], [8, 15, 2, 0, 13, 6], ce_m16), (0, 2, [(3, 5, 1), (5, 2, 1)], [0, 2, 5, 6, 8], [0, 3, 0, 0, 13, 6, 0, 15, 8], ce_m16), (1, 2, [(3, 5, 1)], [0, 2, 5, 6, 8], [0, 0, 2, 0, 13, 6, 0, 15, 8], ce_m16)]) (by decide +kernel) ce_p118 (ce_pc ce_p16 (ce_pc ce_p16 (ce_pc ce_p16 (ce_pc ce_p16 ce_pn))))
def ce_m298 : Nat → Nat → Int := ce_F 6 9 0x9402240249009241009208050200241008000049
theorem ce_p298 : rk_M 2 ce_m298 := ce_st (b1 := 2) (T := ce_m52) (rem := [(4, 5, 0), (4, 7, 1), (4, 8, 2)]) (rows := [0, 2, 11, 8, 4, 7]) (cols := [2, 20, 17, 6, 14, 0, 4]) (L := [(2, 2, [(4, 4, 1), (4, 6, 0)], [0, 2, 11, 8, 4, 7], [4, 14, 0, 6, 0, 2, 0, 20, 17], ce_m52), (0, 2, [(5, 3, 1)], [0, 2, 11, 8, 4, 7], [0, 7, 0, 0, 14, 2, 4, 20, 17], ce_m52), (1, 2, [], [0, 2, 11, 8, 4, 7], [0, 0, 0, 6, 14, 2, 4, 20, 17], ce_m52)]) (by decide +kernel) ce_p52 (ce_pc ce_p52 (ce_pc ce_p52 (ce_pc ce_p52 ce_pn)))
def ce_m299 : Nat → Nat → Int := ce_F 6 9 0xa048048481408209040209009040041048001049
theorem ce_p299 : rk_M 2 ce_m299 := ce_st (b1 := 2) (T := ce_m115) (rem := [(1, 2, 2)]) (rows := [0, 4, 2, 6, 9, 10]) (cols := [4, 12, 0, 2, 17, 10, 6, 8, 14]) (L := [(2, 2, [(3, 4, 2), (4, 5, 0), (5, 7, 4)], [0, 4, 6, 2, 0, 9], [7, 15, 0, 2, 5, 0, 8, 0, 11], ce_m21), (4, 2, [(3, 4, 2), (1, 1, 1), (4, 3, 0)], [0, 6, 2, 8, 0, 5], [6, 0, 0, 0, 0, 13, 8, 2, 15], ce_m16), (1, 2, [(3, 4, 2), (4, 6, 0)], [0, 6, 2, 8, 0, 5], [8, 0, 0, 6, 0, 13, 0, 2, 15], ce_m16), (0, 2, [(3, 4, 2)], [0, 6, 2, 8, 0, 5], [0, 0, 0, 6, 0, 13, 8, 2, 15], ce_m16)]) (by decide +kernel) ce_p115 (ce_pc ce_p21 (ce_pc ce_p16 (ce_pc ce_p16 (ce_pc ce_p16 ce_pn))))
def ce_m300 : Nat → Nat → Int := ce_F 6 9 0xa25100221108800124120100a208040208201009
theorem ce_p300 : rk_M 2 ce_m300 := ce_st (b1 := 2) (T := ce_m83) (rem := []) (rows := [0, 3, 4, 7, 8, 10]) (cols := [5, 6, 3, 8, 16, 11, 12, 18, 15]) (L := [(0, 2, [(3, 4, 1), (5, 2, 1), (5, 7, 5), (5, 8, 4)], [0, 2, 5, 6, 0, 8], [0, 3, 0, 13, 9, 6, 15], ce_m16), (7, 2, [(3, 4, 1), (4, 3, 1), (1, 4, 3)], [0, 2, 5, 6, 0, 8], [0, 13, 2, 0, 0, 6, 15, 0, 8], ce_m16), (1, 2, [(3, 4, 1), (5, 6, 4)], [0, 2, 5, 6, 0, 8], [0, 0, 2, 13, 14, 6, 0, 0, 8], ce_m16), (4, 2, [(3, 4, 1)], [0, 2, 5, 6, 0, 8], [0, 0, 2, 13, 0, 6, 15, 0, 8], ce_m16)]) (by decide +kernel) ce_p83 (ce_pc ce_p16 (ce_pc ce_p16 (ce_pc ce_p16 (ce_pc ce_p16 ce_pn))))
def ce_m301 : Nat → Nat → Int := ce_F 6 9 0x9489000210288200248208048240048208040209
theorem ce_p301 : rk_M 2 ce_m301 := ce_st (b1 := 2) (T := ce_m117) (rem := [(1, 6, 5)]) (rows := [0, 2, 8, 4, 7, 11]) (cols := [4, 13, 2, 16, 8, 6, 0, 15, 10]) (L := [(6, 2, [(4, 4, 0), (4, 7, 1)], [0, 2, 4, 6, 9, 10], [6, 12, 4, 8, 0, 10, 0, 0, 14], ce_m137), (1, 2, [(4, 2, 0), (4, 8, 3)], [0, 7, 8, 11, 2, 4], [7, 0, 0, 14, 20, 5, 0, 2], ce_m52), (0, 2, [(5, 5, 3)], [0, 7, 8, 11, 2, 4], [0, 0, 7, 4, 20, 0, 0, 2, 14], ce_m52), (3, 2, [], [0, 7, 8, 11, 2, 4], [0, 0, 7, 0, 20, 5, 0, 2, 14], ce_m52)]) (by decide +kernel) ce_p117 (ce_pc ce_p137 (ce_pc ce_p52 (ce_pc ce_p52 (ce_pc ce_p52 ce_pn))))
def ce_m302 : Nat → Nat → Int := ce_F 6 9 0x2448242048209210209009008240049040000049
theorem ce_p302 : rk_M 2 ce_m302 := ce_st (b1 := 2) (T := ce_m52) (rem := []) (rows := [0, 2, 8, 10, 4, 6]) (cols := [10, 8, 12, 2, 6, 4, 20, 17, 15]) (L := [(0, 2, [(4, 4, 1), (5, 6, 2)], [0, 2, 8, 10, 4, 6], [0, 6, 21, 2, 0, 4, 0, 17, 15], ce_m52), (2, 2, [(4, 3, 1)], [0, 2, 8, 10, 4, 6], [0, 2, 0, 0, 6, 4, 20, 17, 15], ce_m52), (1, 2, [], [0, 2, 8, 10, 4, 6], [0, 0, 0, 2, 6, 4, 20, 17, 15], ce_m52)]) (by decide +kernel) ce_p52 (ce_pc ce_p52 (ce_pc ce_p52 (ce_pc ce_p52 ce_pn)))
def ce_m303 : Nat → Nat → Int := ce_F 6 9 0x9402241208049001248208090200241008000049
theorem ce_p303 : rk_M 2 ce_m303 := ce_st (b1 := 2) (T := ce_m74) (rem := [(4, 5, 0), (4, 7, 1)]) (rows := [0, 3, 4, 7, 11, 8]) (cols := [9, 12, 19, 3, 11, 0, 7, 0, 16]) (L := [(0, 2, [(5, 3, 1), (5, 6, 2)], [0, 10, 8, 6, 2, 4], [0, 10, 14, 0, 16, 6, 0, 4, 2], ce_m53), (1, 2, [(4, 4, 2)], [0, 10, 8, 6, 2, 4], [0, 0, 16, 11, 0, 6, 15, 4, 2], ce_m53), (2, 2, [], [0, 10, 8, 6, 2, 4], [0, 0, 0, 11, 16, 6, 15, 4, 2], ce_m53)]) (by decide +kernel) ce_p74 (ce_pc ce_p53 (ce_pc ce_p53 (ce_pc ce_p53 ce_pn)))
def ce_m304 : Nat → Nat → Int := ce_F 6 9 0x2411202090201209009009040240248040000249
theorem ce_p304 : rk_M 2 ce_m304 := ce_st (b1 := 2) (T := ce_m52) (rem := []) (rows := [0, 2, 4, 6, 11, 9]) (cols := [14, 4, 16, 19, 2, 6, 8, 10, 12]) (L := [(0, 2, [(3, 4, 3), (3, 5, 2), (1, 3, 2), (4, 5, 1), (1, 7, 2), (1, 8, 3)], [0, 2, 4, 6], [0, 6, 9, 0, 4, 0, 2], ce_m5), (2, 2, [(3, 4, 3), (3, 5, 2), (1, 3, 3), (4, 4, 1), (1, 7, 2), (1, 8, 3)], [0, 6, 2, 4], [0, 6, 0, 0, 0, 10, 2], ce_m4), (3, 2, [(3, 4, 3), (3, 5, 2), (4, 6, 1), (1, 7, 2), (1, 8, 3)], [0, 6, 2, 4], [0, 2, 0, 0, 6, 10], ce_m4), (1, 2, [(3, 4, 3), (3, 5, 2), (1, 7, 2), (1, 8, 3)], [0, 6, 2, 4], [0, 0, 0, 0, 6, 10, 2], ce_m4)]) (by decide +kernel) ce_p52 (ce_pc ce_p5 (ce_pc ce_p4 (ce_pc ce_p4 (ce_pc ce_p4 ce_pn))))
def ce_m305 : Nat → Nat → Int := ce_F 6 9 0x12048209041201088208248008240049008000049
theorem ce_p305 : rk_M 2 ce_m305 := ce_st (b1 := 2) (T := ce_m73) (rem := [(1, 1, 2)]) (rows := [0, 2, 4, 10, 6, 8]) (cols := [4, 0, 18, 2, 8, 6, 16, 14, 10]) (L := [(1, 2, [(4, 4, 0), (5, 7, 2)], [0, 8, 2, 11, 4, 7], [20, 0, 7, 2, 0, 17, 14, 0, 4], ce_m52), (2, 2, [(4, 3, 0)], [0, 8, 2, 11, 4, 7], [2, 0, 0, 0, 20, 17, 14, 6, 4], ce_m52), (0, 2, [], [0, 8, 2, 11, 4, 7], [0, 0, 0, 2, 20, 17, 14, 6, 4], ce_m52)]) (by decide +kernel) ce_p73 (ce_pc ce_p52 (ce_pc ce_p52 (ce_pc ce_p52 ce_pn)))
def ce_m306 : Nat → Nat → Int := ce_F 6 9 0x9082201090048240208209041040049008000049
theorem ce_p306 : rk_M 2 ce_m306 := ce_st (b1 := 2) (T := ce_m78) (rem := [(1, 1, 4), (4, 4, 0)]) (rows := [0, 8, 2, 10, 5, 6]) (cols := [8, 0, 4, 11, 0, 12, 2, 6, 15]) (L := [(1, 2, [(4, 7, 2)], [0, 2, 8, 6, 11, 5], [6, 0, 11, 2, 4, 8, 18, 0, 13], ce_m77), (0, 2, [(5, 5, 2)], [0, 7, 11, 8, 2, 4], [0, 0, 2, 11, 17, 0, 9, 14, 4], ce_m57), (2, 2, [], [0, 7, 11, 8, 2, 4], [0, 0, 0, 11, 17, 3, 9, 14, 4], ce_m57)]) (by decide +kernel) ce_p78 (ce_pc ce_p77 (ce_pc ce_p57 (ce_pc ce_p57 ce_pn)))
def ce_m307 : Nat → Nat → Int := ce_F 6 9 0x9088241048209200241008411000250008000049
theorem ce_p307 : rk_M 2 ce_m307 := ce_st (b1 := 2) (T := ce_m52) (rem := [(4, 6, 0), (4, 7, 2), (4, 8, 1)]) (rows := [0, 11, 9, 2, 4, 6]) (cols := [14, 4, 16, 2, 6, 20]) (L := [(0, 2, [(4, 4, 1), (5, 5, 2)], [0, 11, 9, 2, 4, 6], [0, 6, 21, 2, 0, 0, 14, 16, 4], ce_m52), (2, 2, [(4, 3, 1)], [0, 11, 9, 2, 4, 6], [0, 2, 0, 0, 6, 20, 14, 16, 4], ce_m52), (1, 2, [], [0, 11, 9, 2, 4, 6], [0, 0, 0, 2, 6, 20, 14, 16, 4], ce_m52)]) (by decide +kernel) ce_p52 (ce_pc ce_p52 (ce_pc ce_p52 (ce_pc ce_p52 ce_pn)))
def ce_m308 : Nat → Nat → Int := ce_F 6 9 0x8242241441008041009201211000009048000049
theorem ce_p308 : rk_M 2 ce_m308 := ce_st (b1 := 2) (T := ce_m91) (rem := [(4, 5, 2)]) (rows := [0, 8, 4, 2, 10, 6]) (cols := [4, 8, 2, 7, 18, 0, 10, 14, 16]) (L := [(0, 2, [(5, 3, 2), (4, 8, 1)], [0, 9, 2, 10, 6, 4], [0, 10, 4, 0, 12, 6, 2, 19], ce_m57), (2, 2, [], [0, 9, 4, 6, 10, 2], [0, 15, 0, 5, 21, 2, 6, 18, 8], ce_m57), (1, 2, [], [0, 9, 2, 10, 6, 4], [0, 0, 0, 5, 12, 6, 2, 19, 10], ce_m57)]) (by decide +kernel) ce_p91 (ce_pc ce_p57 (ce_pc ce_p57 (ce_pc ce_p57 ce_pn)))
def ce_m309 : Nat → Nat → Int := ce_F 6 9 0x824800a408201089008248040240049008000049
theorem ce_p309 : rk_M 2 ce_m309 := ce_st (b1 := 2) (T := ce_m73) (rem := [(1, 1, 2), (1, 2, 3)]) (rows := [0, 2, 4, 10, 8, 6]) (cols := [4, 0, 0, 6, 2, 8, 16, 14, 10]) (L := [(1, 2, [(4, 5, 0)], [0, 6, 2, 5, 9, 10], [11, 0, 3, 16, 6, 0, 15, 4, 20], ce_m53), (2, 2, [], [0, 7, 3, 4, 8, 11], [9, 0, 0, 17, 7, 10, 14, 5, 21], ce_m53), (0, 2, [], [0, 11, 3, 8, 4, 7], [0, 0, 0, 14, 7, 20, 17, 3, 5], ce_m52)]) (by decide +kernel) ce_p73 (ce_pc ce_p53 (ce_pc ce_p53 (ce_pc ce_p52 ce_pn)))
def ce_m310 : Nat → Nat → Int := ce_F 6 9 0x9082200052048240208241001240049008000049
theorem ce_p310 : rk_M 2 ce_m310 := ce_st (b1 := 2) (T := ce_m83) (rem := [(4, 6, 1)]) (rows := [0, 4, 2, 8, 6, 11]) (cols := [2, 4, 10, 12, 6, 8, 0, 18, 14]) (L := [(1, 2, [(4, 4, 0), (4, 7, 2)], [0, 5, 10, 9, 2, 6], [5, 0, 12, 11, 0, 3, 8, 0, 16], ce_m57), (0, 2, [(5, 5, 2)], [0, 5, 10, 9, 2, 6], [0, 0, 2, 11, 5, 0, 8, 12, 16], ce_m57), (2, 2, [], [0, 5, 10, 9, 2, 6], [0, 0, 0, 11, 5, 3, 8, 12, 16], ce_m57)]) (by decide +kernel) ce_p83 (ce_pc ce_p57 (ce_pc ce_p57 (ce_pc ce_p57 ce_pn)))
def ce_m311 : Nat → Nat → Int := ce_F 6 9 0x124804a042440201201201210201009008000049
theorem ce_p311 : rk_M 2 ce_m311 := ce_st (b1 := 2) (T := ce_m83) (rem := [(1, 2, 4), (4, 5, 1)]) (rows := [0, 11, 4, 2, 7, 8]) (cols := [14, 2, 0, 9, 10, 0, 6, 18, 4]) (L := [(2, 2, [(4, 4, 0)], [0, 5, 2, 6, 8, 10], [11, 8, 0, 5, 0, 6, 20, 15, 16], ce_m53), (0, 2, [], [0, 4, 3, 7, 9, 11], [0, 3, 0, 4, 10, 7, 21, 14, 17], ce_m53), (1, 2, [], [0, 9, 2, 10, 4, 6], [0, 0, 0, 3, 21, 6, 4, 16, 15], ce_m52)]) (by decide +kernel) ce_p83 (ce_pc ce_p53 (ce_pc ce_p53 (ce_pc ce_p52 ce_pn)))
def ce_m312 : Nat → Nat → Int := ce_F 6 9 0x9090209240049200488008408040248040000049
theorem ce_p312 : rk_M 2 ce_m312 := ce_st (b1 := 2) (T := ce_m67) (rem := [(4, 6, 1), (4, 7, 0), (4, 8, 2)]) (rows := [0, 5, 6, 8, 10, 2]) (cols := [6, 17, 8, 18, 3, 5]) (L := [(1, 2, [(5, 4, 2), (5, 5, 0)], [0, 5, 6, 8, 10, 2], [4, 0, 2, 18, 0, 0, 17, 6, 8], ce_m67), (0, 2, [(5, 3, 2)], [0, 5, 6, 8, 10, 2], [0, 0, 19, 0, 3, 5, 17, 6, 8], ce_m67), (2, 2, [], [0, 5, 6, 8, 10, 2], [0, 0, 0, 18, 3, 5, 17, 6, 8], ce_m67)]) (by decide +kernel) ce_p67 (ce_pc ce_p67 (ce_pc ce_p67 (ce_pc ce_p67 ce_pn)))
def ce_m313 : Nat → Nat → Int := ce_F 6 9 0x12291000011288200211008201040201048001209
theorem ce_p313 : rk_M 2 ce_m313 := ce_st (b1 := 2) (T := ce_m100) (rem := []) (rows := [0, 2, 4, 6, 8, 10]) (cols := [4, 2, 6, 8, 12, 10, 14, 16, 18]) (L := [(0, 2, [(5, 2, 1), (5, 5, 3)], [0, 4, 8, 3, 7, 10], [0, 5, 0, 17, 3, 0, 14, 18, 11], ce_m84), (1, 2, [(5, 6, 4), (5, 8, 3), (0, 1, 4), (1, 4, 5)], [0, 0, 2, 8, 4, 7], [0, 0, 7, 17, 0, 2, 0, 8], ce_m14), (3, 2, [], [0, 3, 7, 8, 4, 10], [0, 0, 5, 0, 10, 7, 13, 15, 16], ce_m133), (4, 2, [(0, 1, 6), (1, 6, 5)], [0, 0, 2, 8, 4, 7], [0, 0, 7, 0, 0, 2, 0, 8, 16], ce_m14)]) (by decide +kernel) ce_p100 (ce_pc ce_p84 (ce_pc ce_p14 (ce_pc ce_p133 (ce_pc ce_p14 ce_pn))))
def ce_m314 : Nat → Nat → Int := ce_F 6 9 0x12480200492040248001208210200209008000049
theorem ce_p314 : rk_M 2 ce_m314 := ce_st (b1 := 2) (T := ce_m60) (rem := []) (rows := [0, 2, 7, 4, 11, 9]) (cols := [2, 10, 21, 4, 8, 17, 6, 14, 12]) (L := [(0, 2, [(5, 3, 1), (5, 6, 2)], [0, 4, 3, 8, 10, 6], [0, 3, 11, 0, 14, 7, 0, 9, 17], ce_m53), (1, 2, [(5, 7, 2)], [0, 4, 3, 8, 10, 6], [0, 0, 8, 2, 14, 7, 10, 0, 17], ce_m53), (2, 2, [], [0, 4, 3, 8, 10, 6], [0, 0, 0, 2, 14, 7, 10, 9, 17], ce_m53)]) (by decide +kernel) ce_p60 (ce_pc ce_p53 (ce_pc ce_p53 (ce_pc ce_p53 ce_pn)))
def ce_m315 : Nat → Nat → Int := ce_F 6 9 0x1229020000a448201081008048040200248000049
theorem ce_p315 : rk_M 2 ce_m315 := ce_st (b1 := 2) (T := ce_m100) (rem := []) (rows := [0, 2, 4, 6, 8, 10]) (cols := [4, 2, 8, 6, 10, 12, 14, 16, 18]) (L := [(0, 2, [(0, 1, 6), (5, 3, 1), (5, 4, 2), (1, 6, 5)], [0, 0, 3, 9, 5, 6], [0, 7, 2, 0, 0, 15, 0, 9, 17], ce_m14), (1, 2, [(0, 1, 6), (1, 6, 5), (5, 8, 2)], [0, 0, 3, 9, 5, 6], [0, 0, 16, 6, 3, 15, 0, 9], ce_m14), (2, 2, [(0, 1, 6), (1, 6, 5)], [0, 0, 3, 9, 5, 6], [0, 0, 0, 6, 3, 15, 0, 9, 17], ce_m14)]) (by decide +kernel) ce_p100 (ce_pc ce_p14 (ce_pc ce_p14 (ce_pc ce_p14 ce_pn)))
def ce_m316 : Nat → Nat → Int := ce_F 6 9 0x12240049201041088081001240040049008000049
theorem ce_p316 : rk_M 2 ce_m316 := ce_st (b1 := 2) (T := ce_m95) (rem := [(1, 2, 4)]) (rows := [0, 2, 6, 5, 8, 10]) (cols := [6, 15, 0, 2, 4, 8, 11, 12, 18]) (L := [(2, 2, [(4, 5, 0), (5, 7, 1)], [0, 11, 8, 2, 7, 4], [14, 2, 0, 9, 17, 0, 4, 0, 11], ce_m57), (1, 2, [], [0, 8, 6, 11, 2, 5], [6, 0, 0, 18, 4, 11, 13, 8, 2], ce_m77), (0, 2, [], [0, 11, 8, 2, 7, 4], [0, 0, 0, 9, 17, 14, 4, 3, 11], ce_m57)]) (by decide +kernel) ce_p95 (ce_pc ce_p57 (ce_pc ce_p77 (ce_pc ce_p57 ce_pn)))
def ce_m317 : Nat → Nat → Int := ce_F 6 9 0x9090208092041200488008408040248040000049
theorem ce_p317 : rk_M 2 ce_m317 := ce_st (b1 := 2) (T := ce_m126) (rem := [(1, 1, 1)]) (rows := [0, 3, 4, 6, 8, 10]) (cols := [10, 0, 12, 8, 7, 3, 5, 14, 16]) (L := [(1, 2, [(3, 4, 1), (5, 4, 2), (5, 5, 0), (1, 6, 1)], [0, 7, 2, 5, 0, 8], [6, 0, 13, 2, 0, 0, 0, 8, 15], ce_m16), (0, 2, [(3, 4, 1), (5, 3, 2), (1, 6, 1)], [0, 7, 2, 5, 0, 8], [0, 0, 3, 0, 12, 7, 0, 8, 15], ce_m16), (2, 2, [(3, 4, 1), (1, 6, 1)], [0, 7, 2, 5, 0, 8], [0, 0, 0, 2, 12, 7, 0, 8, 15], ce_m16)]) (by decide +kernel) ce_p126 (ce_pc ce_p16 (ce_pc ce_p16 (ce_pc ce_p16 ce_pn)))
def ce_m318 : Nat → Nat → Int := ce_F 6 9 0x11410201440408241200211400200009008000049
theorem ce_p318 : rk_M 2 ce_m318 := ce_st (b1 := 2) (T := ce_m53) (rem := [(1, 2, 5)]) (rows := [0, 4, 6, 8, 10, 3]) (cols := [12, 18, 0, 14, 4, 17, 6, 9, 20]) (L := [(2, 2, [(4, 4, 0), (4, 6, 1)], [0, 4, 6, 8, 10, 3], [4, 6, 0, 14, 0, 17, 0, 9, 20], ce_m53), (0, 2, [], [0, 4, 6, 8, 10, 3], [0, 11, 0, 14, 4, 17, 6, 9, 20], ce_m53), (1, 2, [], [0, 4, 6, 8, 10, 3], [0, 0, 0, 14, 4, 17, 6, 9, 20], ce_m53)]) (by decide +kernel) ce_p53 (ce_pc ce_p53 (ce_pc ce_p53 (ce_pc ce_p53 ce_pn)))
def ce_m319 : Nat → Nat → Int := ce_F 6 9 0x9200249012040009081008048040240048000049
theorem ce_p319 : rk_M 2 ce_m319 := ce_st (b1 := 2) (T := ce_m51) (rem := [(4, 6, 1), (4, 8, 2)]) (rows := [0, 10, 4, 8, 6, 2]) (cols := [6, 8, 4, 12, 10, 17, 0, 2]) (L := [(2, 2, [(4, 5, 1)], [0, 10, 4, 8, 3, 7], [6, 8, 0, 12, 2, 0, 17, 10, 5], ce_m51), (0, 2, [(5, 3, 1)], [0, 10, 4, 8, 3, 7], [0, 13, 0, 0, 2, 8, 17, 10, 5], ce_m51), (1, 2, [], [0, 10, 4, 8, 3, 7], [0, 0, 0, 12, 2, 8, 17, 10, 5], ce_m51)]) (by decide +kernel) ce_p51 (ce_pc ce_p51 (ce_pc ce_p51 (ce_pc ce_p51 ce_pn)))
def ce_m320 : Nat → Nat → Int := ce_F 6 9 0xa048201048048201240009080200049008000049
theorem ce_p320 : rk_M 2 ce_m320 := ce_st (b1 := 2) (T := ce_m55) (rem := [(1, 0, 1), (4, 6, 1)]) (rows := [0, 2, 5, 8, 7, 10]) (cols := [0, 7, 19, 4, 10, 12, 0, 17, 15]) (L := [(0, 2, [], [0, 8, 5, 7, 3, 11], [0, 5, 21, 17, 10, 9, 3, 15, 7], ce_m53), (1, 2, [(5, 7, 2)], [0, 9, 4, 6, 2, 10], [0, 0, 15, 16, 11, 8, 2, 0, 6], ce_m53), (2, 2, [], [0, 9, 4, 6, 2, 10], [0, 0, 0, 16, 11, 8, 2, 14, 6], ce_m53)]) (by decide +kernel) ce_p55 (ce_pc ce_p53 (ce_pc ce_p53 (ce_pc ce_p53 ce_pn)))
def ce_m321 : Nat → Nat → Int := ce_F 6 9 0xa480201082048012088008280200209008000049
theorem ce_p321 : rk_M 2 ce_m321 := ce_st (b1 := 2) (T := ce_m88) (rem := [(1, 0, 1)]) (rows := [0, 3, 8, 4, 6, 10]) (cols := [0, 14, 10, 3, 7, 13, 5, 18, 16]) (L := [(0, 2, [(5, 4, 1), (5, 6, 2)], [0, 6, 3, 8, 11, 4], [0, 7, 10, 16, 0, 5, 0, 3, 14], ce_m53), (1, 2, [(5, 5, 2)], [0, 6, 3, 8, 11, 4], [0, 0, 4, 16, 6, 0, 11, 3, 14], ce_m53), (2, 2, [], [0, 6, 3, 8, 11, 4], [0, 0, 0, 16, 6, 5, 11, 3, 14], ce_m53)]) (by decide +kernel) ce_p88 (ce_pc ce_p53 (ce_pc ce_p53 (ce_pc ce_p53 ce_pn)))
def ce_m322 : Nat → Nat → Int := ce_F 6 9 0x12090202092040041201001210208009008000049
theorem ce_p322 : rk_M 2 ce_m322 := ce_st (b1 := 2) (T := ce_m53) (rem := [(1, 0, 1)]) (rows := [0, 3, 4, 8, 10, 6]) (cols := [0, 12, 18, 3, 9, 10, 14, 17, 7]) (L := [(0, 2, [(5, 8, 2)], [0, 2, 5, 9, 11, 7], [0, 5, 7, 2, 8, 11, 15, 16], ce_m53), (1, 2, [(5, 5, 2)], [0, 3, 4, 8, 10, 6], [0, 0, 11, 3, 9, 0, 14, 17, 7], ce_m53), (2, 2, [], [0, 3, 4, 8, 10, 6], [0, 0, 0, 3, 9, 10, 14, 17, 7], ce_m53)]) (by decide +kernel) ce_p53 (ce_pc ce_p53 (ce_pc ce_p53 (ce_pc ce_p53 ce_pn)))
def ce_m323 : Nat → Nat → Int := ce_F 6 9 0xa441200242088210048009000240041040001041
theorem ce_p323 : rk_M 2 ce_m323 := ce_st (b1 := 2) (T := ce_m87) (rem := [(1, 0, 2), (1, 4, 4)]) (rows := [0, 7, 3, 10, 5, 8]) (cols := [0, 3, 14, 17, 0, 11, 7, 5, 18]) (L := [(0, 2, [(2, 4, 2), (1, 4, 2), (5, 6, 2)], [0, 2, 4, 6, 0, 8], [0, 2, 13, 6, 0, 8, 0, 14, 16], ce_m16), (4, 2, [(2, 4, 2), (4, 8, 2)], [0, 2, 4, 6, 0, 8], [0, 2, 16, 6, 0, 8, 12, 14], ce_m16), (2, 2, [(2, 4, 2)], [0, 2, 4, 6, 0, 8], [0, 2, 0, 6, 0, 8, 12, 14, 16], ce_m16)]) (by decide +kernel) ce_p87 (ce_pc ce_p16 (ce_pc ce_p16 (ce_pc ce_p16 ce_pn)))
def ce_m324 : Nat → Nat → Int := ce_F 6 9 0xa440049409001048048202080200041008000049
theorem ce_p324 : rk_M 2 ce_m324 := ce_st (b1 := 2) (T := ce_m129) (rem := [(1, 2, 3)]) (rows := [0, 2, 5, 6, 8, 10]) (cols := [4, 13, 0, 2, 8, 10, 6, 14, 16]) (L := [(2, 2, [(4, 5, 0), (5, 6, 1)], [0, 6, 5, 2, 8, 11], [16, 13, 0, 4, 6, 0, 0, 14, 22], ce_m50), (1, 2, [], [0, 4, 3, 6, 8, 11], [2, 0, 0, 10, 6, 12, 8, 18, 16], ce_m74), (0, 2, [], [0, 6, 5, 2, 8, 11], [0, 0, 0, 4, 6, 16, 12, 14, 22], ce_m50)]) (by decide +kernel) ce_p129 (ce_pc ce_p50 (ce_pc ce_p74 (ce_pc ce_p50 ce_pn)))
def ce_m325 : Nat → Nat → Int := ce_F 6 9 0x8490201280048012408008210200209008000049
theorem ce_p325 : rk_M 2 ce_m325 := ce_st (b1 := 2) (T := ce_m77) (rem := [(1, 0, 1), (4, 7, 1)]) (rows := [0, 3, 4, 6, 10, 8]) (cols := [0, 16, 14, 3, 5, 10, 7, 0, 18]) (L := [(0, 2, [(5, 6, 2)], [0, 2, 5, 7, 11, 9], [0, 9, 7, 2, 4, 11, 0, 17, 19], ce_m77), (1, 2, [(5, 5, 2)], [0, 5, 8, 10, 6, 2], [0, 0, 14, 7, 13, 0, 11, 8, 4], ce_m50), (2, 2, [], [0, 5, 8, 10, 6, 2], [0, 0, 0, 7, 13, 15, 11, 8, 4], ce_m50)]) (by decide +kernel) ce_p77 (ce_pc ce_p77 (ce_pc ce_p50 (ce_pc ce_p50 ce_pn)))
def ce_m326 : Nat → Nat → Int := ce_F 6 9 0x9209009011040080089001200240009008000049
theorem ce_p326 : rk_M 2 ce_m326 := ce_st (b1 := 2) (T := ce_m114) (rem := []) (rows := [0, 2, 4, 7, 8, 10]) (cols := [4, 10, 13, 2, 6, 8, 14, 16, 18]) (L := [(1, 2, [(4, 3, 0), (5, 5, 2)], [0, 2, 6, 5, 9, 10], [12, 0, 9, 0, 14, 0, 20, 18, 23], ce_m50), (2, 2, [], [0, 2, 6, 5, 9, 10], [2, 0, 0, 4, 8, 6, 12, 10, 15], ce_m141), (0, 2, [], [0, 2, 6, 5, 9, 10], [0, 0, 0, 12, 14, 8, 20, 18, 23], ce_m50)]) (by decide +kernel) ce_p114 (ce_pc ce_p50 (ce_pc ce_p141 (ce_pc ce_p50 ce_pn)))
def ce_m327 : Nat → Nat → Int := ce_F 6 9 0x824804024820844044000008a040208200008201
theorem ce_p327 : rk_M 2 ce_m327 := ce_st (b1 := 2) (T := ce_m55) (rem := [(1, 0, 2), (4, 5, 1)]) (rows := [0, 9, 2, 4, 6, 11]) (cols := [0, 18, 5, 8, 11, 0, 14, 6, 17]) (L := [(0, 2, [(4, 7, 3)], [0, 2, 5, 7, 8, 10], [0, 14, 4, 9, 6, 10, 3, 0, 12], ce_m143), (5, 2, [], [0, 2, 5, 11, 8, 6], [0, 14, 2, 11, 4, 0, 6, 18, 16], ce_m88), (3, 2, [], [0, 2, 5, 7, 9, 10], [0, 23, 2, 0, 10, 0, 14, 9, 20], ce_m50)]) (by decide +kernel) ce_p55 (ce_pc ce_p143 (ce_pc ce_p88 (ce_pc ce_p50 ce_pn)))
def ce_m328 : Nat → Nat → Int := ce_F 6 9 0x11481002409040208011008008240009040008041
theorem ce_p328 : rk_M 2 ce_m328 := ce_st (b1 := 2) (T := ce_m136) (rem := [(1, 0, 2)]) (rows := [0, 2, 4, 6, 10, 8]) (cols := [0, 2, 13, 4, 6, 17, 10, 8, 14]) (L := [(0, 2, [(5, 7, 5)], [0, 2, 10, 6, 4, 8], [0, 6, 14, 8, 2, 16, 10, 0, 13], ce_m78), (2, 2, [(4, 6, 5)], [0, 2, 10, 6, 4, 8], [0, 6, 0, 8, 2, 10, 0, 17, 13], ce_m78), (5, 2, [], [0, 2, 10, 6, 4, 8], [0, 6, 0, 8, 2, 0, 10, 17, 13], ce_m78)]) (by decide +kernel) ce_p136 (ce_pc ce_p78 (ce_pc ce_p78 (ce_pc ce_p78 ce_pn)))
def ce_m329 : Nat → Nat → Int := ce_F 6 9 0xa280001041040041208088010208001208000049
theorem ce_p329 : rk_M 2 ce_m329 := ce_st (b1 := 2) (T := ce_m55) (rem := [(1, 0, 1), (1, 1, 2)]) (rows := [0, 2, 9, 6, 4, 10]) (cols := [0, 0, 8, 4, 6, 18, 16, 14, 10]) (L := [(0, 2, [(5, 3, 1), (4, 4, 2)], [0, 4, 3, 8, 6, 10], [0, 3, 8, 0, 0, 22, 20, 15, 10], ce_m50), (1, 2, [], [0, 9, 2, 6, 11, 5], [0, 0, 13, 5, 18, 6, 17, 8, 11], ce_m55), (2, 2, [], [0, 4, 3, 8, 6, 10], [0, 0, 0, 2, 8, 22, 20, 15, 10], ce_m50)]) (by decide +kernel) ce_p55 (ce_pc ce_p50 (ce_pc ce_p55 (ce_pc ce_p50 ce_pn)))
def ce_m330 : Nat → Nat → Int := ce_F 6 9 0x9209040410440401400201001240009040000041
theorem ce_p330 : rk_M 2 ce_m330 := ce_st (b1 := 2) (T := ce_m114) (rem := []) (rows := [0, 2, 4, 7, 9, 10]) (cols := [10, 4, 8, 6, 2, 13, 14, 18, 16]) (L := [(0, 2, [(5, 5, 2)], [0, 2, 4, 7, 9, 10], [0, 4, 12, 6, 2, 0, 14, 18, 16], ce_m114), (2, 2, [], [0, 2, 4, 7, 9, 10], [0, 4, 0, 6, 2, 13, 14, 18, 16], ce_m114)]) (by decide +kernel) ce_p114 (ce_pc ce_p114 (ce_pc ce_p114 ce_pn))
def ce_m331 : Nat → Nat → Int := ce_F 6 9 0x9240001240008400288008241008001048000049
theorem ce_p331 : rk_M 2 ce_m331 := ce_st (b1 := 2) (T := ce_m55) (rem := [(1, 0, 1), (4, 4, 2)]) (rows := [0, 8, 6, 11, 2, 4]) (cols := [0, 4, 18, 20, 0, 6, 2, 8, 10]) (L := [(0, 2, [(1, 1, 4)], [0, 3, 6, 4, 9, 11], [0, 0, 8, 3, 6, 18, 21, 14, 11], ce_m55), (1, 2, [], [0, 8, 6, 11, 2, 4], [0, 0, 13, 20, 18, 6, 2, 8, 10], ce_m55), (2, 2, [], [0, 8, 6, 11, 2, 4], [0, 0, 0, 20, 18, 6, 2, 8, 10], ce_m55)]) (by decide +kernel) ce_p55 (ce_pc ce_p55 (ce_pc ce_p55 (ce_pc ce_p55 ce_pn)))
def ce_m332 : Nat → Nat → Int := ce_F 6 9 0x2209002210008408201040201040009200000009
theorem ce_p332 : rk_M 2 ce_m332 := ce_st (b1 := 2) (T := ce_m50) (rem := [(1, 0, 2)]) (rows := [0, 7, 3, 10, 4, 9]) (cols := [0, 18, 5, 9, 17, 3, 23, 6, 13]) (L := [(0, 2, [(5, 8, 1)], [0, 2, 6, 10, 9, 4], [0, 17, 4, 2, 12, 8, 18, 7], ce_m50), (1, 2, [], [0, 2, 6, 10, 9, 4], [0, 0, 4, 2, 12, 8, 18, 7, 16], ce_m50)]) (by decide +kernel) ce_p50 (ce_pc ce_p50 (ce_pc ce_p50 ce_pn))
def ce_m333 : Nat → Nat → Int := ce_F 6 8 0x282240290041449008200249008248001049
theorem ce_p333 : rk_M 2 ce_m333 := ce_st (b1 := 2) (T := ce_m117) (rem := []) (rows := [0, 2, 4, 6, 11, 8]) (cols := [10, 2, 8, 4, 12, 6, 14, 16]) (L := [(0, 2, [(3, 4, 3), (4, 5, 1), (5, 7, 4)], [0, 2, 6, 4, 0, 8], [0, 2, 8, 6, 12, 0, 14], ce_m16), (4, 2, [(3, 4, 3), (4, 3, 1)], [0, 7, 3, 4, 0, 9], [0, 7, 5, 0, 0, 8, 10, 3], ce_m40), (1, 2, [(3, 4, 3), (5, 6, 2)], [0, 8, 4, 6, 0, 3], [0, 0, 9, 6, 0, 16, 0, 3], ce_m14), (2, 2, [(3, 4, 3)], [0, 8, 4, 6, 0, 3], [0, 0, 0, 6, 0, 16, 8, 3], ce_m14)]) (by decide +kernel) ce_p117 (ce_pc ce_p16 (ce_pc ce_p40 (ce_pc ce_p14 (ce_pc ce_p14 ce_pn))))
def ce_m334 : Nat → Nat → Int := ce_F 6 8 0x252040012448240241210049009201000049
theorem ce_p334 : rk_M 2 ce_m334 := ce_st (b1 := 2) (T := ce_m117) (rem := []) (rows := [0, 2, 10, 6, 5, 9]) (cols := [6, 11, 17, 2, 4, 8, 12, 14]) (L := [(1, 2, [(3, 4, 1), (4, 3, 0), (4, 6, 2)], [0, 3, 6, 5, 0, 8], [3, 0, 15, 0, 9, 7, 0, 13], ce_m16), (0, 2, [(3, 4, 1), (5, 4, 2)], [0, 3, 6, 5, 0, 8], [0, 0, 8, 3, 0, 7, 15, 13], ce_m16), (2, 2, [(3, 4, 1)], [0, 3, 6, 5, 0, 8], [0, 0, 0, 3, 9, 7, 15, 13], ce_m16)]) (by decide +kernel) ce_p117 (ce_pc ce_p16 (ce_pc ce_p16 (ce_pc ce_p16 ce_pn)))
def ce_m335 : Nat → Nat → Int := ce_F 6 8 0x450440441041208209009201000249000049
theorem ce_p335 : rk_M 2 ce_m335 := ce_st (b1 := 2) (T := ce_m74) (rem := []) (rows := [0, 4, 2, 6, 8, 11]) (cols := [2, 10, 12, 4, 6, 8, 16, 18]) (L := [(1, 2, [(0, 1, 3), (4, 4, 0), (4, 5, 3), (5, 7, 2)], [0, 0, 8, 4, 6, 2], [16, 0, 2, 6, 0, 0, 8], ce_m14), (2, 2, [(0, 1, 3), (4, 3, 0), (4, 5, 0)], [0, 0, 8, 4, 6, 2], [6, 0, 0, 0, 16, 0, 8, 3], ce_m14), (0, 2, [(0, 1, 3), (4, 5, 3)], [0, 0, 8, 4, 6, 2], [0, 0, 0, 6, 16, 0, 8, 3], ce_m14)]) (by decide +kernel) ce_p74 (ce_pc ce_p14 (ce_pc ce_p14 (ce_pc ce_p14 ce_pn)))
def ce_m336 : Nat → Nat → Int := ce_F 6 8 0x249200241200048240011088008241001209
theorem ce_p336 : rk_M 2 ce_m336 := ce_st (b1 := 2) (T := ce_m146) (rem := [(1, 0, 1), (1, 1, 2)]) (rows := [0, 2, 5, 6, 8, 10]) (cols := [0, 0, 2, 6, 9, 4, 10, 12]) (L := [(0, 2, [(3, 2, 1), (1, 1, 1), (4, 6, 3)], [0, 9, 0, 5, 6, 2], [0, 0, 11, 2, 12, 7, 0, 8], ce_m14), (1, 2, [(3, 2, 1), (4, 7, 4)], [0, 2, 0, 6, 4, 8], [0, 0, 8, 4, 10, 12, 14], ce_m14), (4, 2, [(3, 2, 1), (4, 3, 2)], [0, 6, 0, 2, 9, 5], [0, 0, 8, 0, 0, 2, 7, 11], ce_m14), (3, 2, [(3, 2, 1)], [0, 6, 0, 2, 9, 5], [0, 0, 8, 0, 0, 2, 7, 11], ce_m14)]) (by decide +kernel) ce_p146 (ce_pc ce_p14 (ce_pc ce_p14 (ce_pc ce_p14 (ce_pc ce_p14 ce_pn))))
def ce_m337 : Nat → Nat → Int := ce_F 6 8 0x441041049041208241090088000241001009
theorem ce_p337 : rk_M 2 ce_m337 := ce_st (b1 := 2) (T := ce_m138) (rem := [(1, 1, 2)]) (rows := [0, 2, 5, 6, 8, 10]) (cols := [10, 0, 2, 4, 14, 6, 8, 12]) (L := [(1, 2, [(3, 4, 2), (4, 2, 0), (4, 6, 4)], [0, 4, 7, 2, 0, 8], [6, 0, 0, 8, 12, 2, 0, 14], ce_m15), (4, 2, [(3, 4, 2), (4, 3, 0)], [0, 4, 7, 2, 0, 8], [8, 0, 6, 0, 0, 2, 12, 14], ce_m15), (0, 2, [(3, 4, 2)], [0, 4, 7, 2, 0, 8], [0, 0, 6, 8, 0, 2, 12, 14], ce_m15)]) (by decide +kernel) ce_p138 (ce_pc ce_p15 (ce_pc ce_p15 (ce_pc ce_p15 ce_pn)))
def ce_m338 : Nat → Nat → Int := ce_F 6 8 0x288440412208209001049001000209000049
theorem ce_p338 : rk_M 2 ce_m338 := ce_st (b1 := 2) (T := ce_m78) (rem := [(1, 2, 5)]) (rows := [0, 9, 3, 11, 6, 4]) (cols := [9, 10, 0, 13, 7, 5, 3, 14]) (L := [(2, 2, [(4, 3, 1)], [0, 5, 8, 10, 3, 6], [7, 3, 0, 0, 10, 4, 17, 8], ce_m118), (1, 2, [(0, 1, 3), (4, 4, 0)], [0, 0, 4, 9, 6, 3], [14, 0, 0, 4, 0, 17, 8, 7], ce_m17), (0, 2, [(0, 1, 3)], [0, 0, 4, 9, 6, 3], [0, 0, 0, 4, 14, 17, 8, 7], ce_m17)]) (by decide +kernel) ce_p78 (ce_pc ce_p118 (ce_pc ce_p17 (ce_pc ce_p17 ce_pn)))
def ce_m339 : Nat → Nat → Int := ce_F 6 8 0x4a408209041208440048009001201000049
theorem ce_p339 : rk_M 2 ce_m339 := ce_st (b1 := 2) (T := ce_m52) (rem := [(4, 6, 1), (4, 7, 2)]) (rows := [0, 2, 8, 11, 4, 7]) (cols := [2, 17, 14, 6, 4, 20]) (L := [(1, 2, [(4, 4, 0)], [0, 3, 4, 6, 9, 10], [7, 0, 11, 3, 0, 8, 4, 12], ce_m147), (2, 2, [], [0, 11, 8, 2, 4, 6], [13, 0, 0, 3, 14, 6, 8, 4], ce_m140), (0, 2, [], [0, 8, 4, 2, 6, 10], [0, 0, 0, 15, 16, 10, 18, 4], ce_m50)]) (by decide +kernel) ce_p52 (ce_pc ce_p147 (ce_pc ce_p140 (ce_pc ce_p50 ce_pn)))
def ce_m340 : Nat → Nat → Int := ce_F 6 8 0x242448212040048408040049001201000049
theorem ce_p340 : rk_M 2 ce_m340 := ce_st (b1 := 2) (T := ce_m78) (rem := [(4, 6, 1)]) (rows := [0, 3, 5, 6, 8, 10]) (cols := [3, 15, 17, 7, 9, 10, 0, 18]) (L := [(0, 2, [(0, 2, 6), (5, 3, 1), (5, 4, 2)], [0, 7, 0, 2, 5, 8], [0, 6, 13, 0, 0, 2, 8, 15], ce_m16), (1, 2, [(0, 2, 6), (5, 5, 2)], [0, 7, 0, 2, 5, 8], [0, 0, 3, 7, 12, 0, 8, 15], ce_m16), (2, 2, [(0, 2, 6)], [0, 7, 0, 2, 5, 8], [0, 0, 0, 7, 12, 2, 8, 15], ce_m16)]) (by decide +kernel) ce_p78 (ce_pc ce_p16 (ce_pc ce_p16 (ce_pc ce_p16 ce_pn)))
def ce_m341 : Nat → Nat → Int := ce_F 6 8 0x81248401209208048048009001048000209
theorem ce_p341 : rk_M 2 ce_m341 := ce_st (b1 := 2) (T := ce_m52) (rem := []) (rows := [0, 2, 10, 6, 8, 4]) (cols := [18, 8, 4, 10, 2, 12, 15, 16]) (L := [(0, 2, [(4, 2, 1), (5, 6, 3)], [0, 10, 4, 2, 7, 9], [0, 14, 0, 7, 17, 2, 0, 4], ce_m50), (3, 2, [], [0, 10, 4, 2, 7, 9], [0, 12, 14, 0, 17, 2, 6, 4], ce_m50), (1, 2, [], [0, 10, 4, 2, 7, 9], [0, 0, 14, 0, 17, 2, 6, 4], ce_m50)]) (by decide +kernel) ce_p52 (ce_pc ce_p50 (ce_pc ce_p50 (ce_pc ce_p50 ce_pn)))
def ce_m342 : Nat → Nat → Int := ce_F 6 8 0x281201440440048041008209001041000209
theorem ce_p342 : rk_M 2 ce_m342 := ce_st (b1 := 2) (T := ce_m74) (rem := [(1, 1, 2)]) (rows := [0, 2, 4, 6, 10, 8]) (cols := [2, 0, 8, 12, 6, 10, 18, 16]) (L := [(1, 2, [(0, 2, 5), (1, 5, 3), (4, 7, 3)], [0, 2, 0, 5, 9, 6], [2, 0, 7, 16, 8, 0, 15], ce_m14), (3, 2, [(0, 2, 5), (4, 2, 0), (1, 5, 3)], [0, 9, 0, 5, 2, 7], [7, 0, 0, 0, 17, 0, 2, 9], ce_m14), (0, 2, [(0, 2, 5), (1, 5, 3)], [0, 9, 0, 5, 2, 7], [0, 0, 7, 0, 17, 0, 2, 9], ce_m14)]) (by decide +kernel) ce_p74 (ce_pc ce_p14 (ce_pc ce_p14 (ce_pc ce_p14 ce_pn)))
def ce_m343 : Nat → Nat → Int := ce_F 6 7 0x921904104204a201009201009202209
theorem ce_p343 : rk_M 2 ce_m343 := ce_st (b1 := 2) (T := ce_m139) (rem := []) (rows := [0, 2, 4, 6, 8, 10]) (cols := [4, 8, 6, 2, 14, 10, 12]) (L := [(0, 2, [(2, 3, 1), (2, 4, 2), (4, 5, 4), (4, 6, 1)], [0, 2, 5, 0, 0, 6], [0, 9, 2, 5, 6], ce_m9), (3, 2, [(2, 3, 1), (2, 4, 2), (4, 5, 1), (4, 6, 4)], [0, 2, 4, 0, 0, 6], [0, 6, 4, 0, 10], ce_m4), (1, 2, [(2, 3, 1), (2, 4, 2), (4, 4, 2)], [0, 2, 4, 0, 0, 6], [0, 0, 4, 0, 0, 6, 10], ce_m4), (4, 2, [(2, 3, 1), (2, 4, 2)], [0, 2, 4, 0, 0, 6], [0, 0, 4, 0, 0, 6, 10], ce_m4)]) (by decide +kernel) ce_p139 (ce_pc ce_p9 (ce_pc ce_p4 (ce_pc ce_p4 (ce_pc ce_p4 ce_pn))))
def ce_m344 : Nat → Nat → Int := ce_F 6 7 0x1108024a008089202041048049008049
theorem ce_p344 : rk_M 2 ce_m344 := ce_st (b1 := 2) (T := ce_m140) (rem := []) (rows := [0, 2, 9, 10, 4, 7]) (cols := [9, 4, 12, 2, 11, 14, 6]) (L := [(0, 1, [(3, 4, 2), (3, 5, 1), (4, 3, 2), (5, 5, 4), (4, 6, 1)], [0, 2, 5, 6], [0, 4, 2, 0, 7], ce_m3), (1, 1, [(3, 4, 2), (3, 5, 1), (4, 4, 2), (5, 5, 3)], [0, 2, 5, 6], [0, 0, 7, 2, 0, 0, 4], ce_m3), (2, 2, [(3, 4, 2), (3, 5, 1)], [0, 2, 5, 6], [0, 0, 0, 6, 9, 3, 4], ce_m9), (5, 1, [(3, 4, 2), (3, 5, 1)], [0, 2, 5, 6], [0, 0, 0, 2, 7, 0, 4], ce_m3)]) (by decide +kernel) ce_p140 (ce_pc ce_p3 (ce_pc ce_p3 (ce_pc ce_p9 (ce_pc ce_p3 ce_pn))))
def ce_m345 : Nat → Nat → Int := ce_F 6 7 0x9240292040482040209040048201009
theorem ce_p345 : rk_M 2 ce_m345 := ce_st (b1 := 2) (T := ce_m115) (rem := [(1, 1, 3)]) (rows := [0, 8, 2, 5, 11, 6]) (cols := [6, 0, 8, 2, 14, 4, 10]) (L := [(1, 2, [(3, 5, 3), (4, 3, 0), (4, 6, 4)], [0, 5, 2, 7, 9], [2, 0, 7, 0, 16, 12], ce_m14), (4, 2, [(3, 5, 3), (4, 2, 0)], [0, 5, 2, 7, 9], [7, 0, 0, 2, 0, 12, 16], ce_m14), (0, 2, [(3, 5, 3)], [0, 5, 2, 7, 9], [0, 0, 7, 2, 0, 12, 16], ce_m14)]) (by decide +kernel) ce_p115 (ce_pc ce_p14 (ce_pc ce_p14 (ce_pc ce_p14 ce_pn)))
def ce_m346 : Nat → Nat → Int := ce_F 7 15 0x104820804000a011400040088001088040208001208040012000209201248000200200000001249
theorem ce_p346 : rk_M 2 ce_m346 := ce_st (b1 := 2) (T := ce_m160) (rem := [(1, 0, 1), (4, 5, 2), (4, 12, 4)]) (rows := [0, 3, 6, 9, 11, 12, 5]) (cols := [0, 12, 14, 22, 5, 0, 17, 11, 25, 21, 7, 3, 0, 9, 19]) (L := [(0, 2, [(4, 7, 4), (5, 10, 3)], [0, 12, 9, 4, 11, 6, 2], [0, 12, 25, 14, 2, 21, 16, 0, 19, 4, 0, 10, 8, 23, 6], ce_m154), (1, 2, [(5, 6, 2), (4, 11, 4)], [0, 5, 2, 11, 8, 12, 7], [0, 0, 14, 22, 3, 6, 0, 13, 20, 19, 5, 0, 9, 11, 17], ce_m209), (2, 2, [(5, 8, 3)], [0, 5, 2, 9, 12, 6, 11], [0, 0, 0, 18, 5, 8, 23, 21, 0, 16, 3, 7, 13, 11, 14], ce_m177), (3, 2, [], [0, 7, 2, 9, 4, 10, 13], [0, 0, 0, 0, 5, 2, 11, 21, 18, 22, 7, 9, 15, 12, 17], ce_m176), (4, 2, [], [0, 12, 8, 7, 2, 5, 11], [0, 0, 0, 0, 0, 6, 5, 19, 2, 17, 12, 25, 23, 10, 9], ce_m153)]) (by decide +kernel) ce_p160 (ce_pc ce_p154 (ce_pc ce_p209 (ce_pc ce_p177 (ce_pc ce_p176 (ce_pc ce_p153 ce_pn)))))
def ce_m347 : Nat → Nat → Int := ce_F 7 15 0x241041000208041041001040000049040040000241008011001040000401001040000002200081
theorem ce_p347 : rk_M 2 ce_m347 := ce_st (b1 := 2) (T := ce_m151) (rem := [(1, 0, 3), (1, 2, 4), (1, 7, 5), (1, 8, 6)]) (rows := [0, 2, 5, 8, 10, 6, 13]) (cols := [0, 20, 0, 4, 15, 8, 11, 0, 0, 2, 17, 6, 13, 24, 18]) (L := [(0, 2, [(4, 13, 8)], [0, 5, 2, 10, 8, 13, 6], [0, 20, 22, 15, 4, 11, 8, 27, 18, 17, 2, 13, 6, 0, 24], ce_m151), (2, 2, [(4, 14, 7)], [0, 3, 4, 9, 11, 7, 12], [0, 21, 0, 5, 14, 9, 10, 19, 26, 3, 16, 7, 12, 25], ce_m151), (7, 2, [(4, 8, 1)], [0, 2, 5, 8, 10, 6, 13], [0, 20, 0, 4, 15, 8, 11, 0, 0, 2, 17, 6, 13, 24, 18], ce_m151), (8, 2, [], [0, 2, 5, 8, 10, 6, 13], [0, 20, 0, 4, 15, 8, 11, 0, 0, 2, 17, 6, 13, 24, 18], ce_m151)]) (by decide +kernel) ce_p151 (ce_pc ce_p151 (ce_pc ce_p151 (ce_pc ce_p151 (ce_pc ce_p151 ce_pn))))
def ce_m348 : Nat → Nat → Int := ce_F 7 14 0x9049000200251000208000208081088200048009040048400088000041009040000009209
theorem ce_p348 : rk_M 2 ce_m348 := ce_st (b1 := 2) (T := ce_m153) (rem := [(1, 4, 4), (1, 5, 5)]) (rows := [0, 6, 5, 10, 3, 8, 13]) (cols := [18, 3, 8, 14, 0, 0, 4, 16, 22, 11, 13, 7, 20, 24]) (L := [(4, 2, [(1, 1, 2), (5, 11, 5)], [0, 6, 3, 10, 13, 5, 9], [22, 0, 4, 11, 0, 15, 16, 6, 21, 9, 3, 0, 13, 19], ce_m171), (5, 2, [(4, 8, 3)], [0, 3, 10, 7, 4, 12, 9], [9, 14, 7, 5, 0, 0, 3, 11, 0, 12, 19, 20, 23, 17], ce_m189), (0, 2, [(5, 2, 1), (4, 12, 3)], [0, 7, 4, 11, 2, 9, 12], [0, 8, 0, 21, 0, 0, 5, 17, 23, 10, 12, 6, 0, 25], ce_m153), (1, 2, [], [0, 2, 9, 6, 5, 10, 12], [0, 0, 4, 6, 0, 0, 2, 12, 8, 15, 19, 11, 20, 16], ce_m226), (3, 2, [], [0, 7, 4, 11, 2, 9, 12], [0, 0, 9, 0, 0, 0, 5, 17, 23, 10, 12, 6, 21, 25], ce_m153)]) (by decide +kernel) ce_p153 (ce_pc ce_p171 (ce_pc ce_p189 (ce_pc ce_p153 (ce_pc ce_p226 (ce_pc ce_p153 ce_pn)))))
def ce_m349 : Nat → Nat → Int := ce_F 7 14 0x1049040020048000224100920120000108128000120000a042008000008241040000000249
theorem ce_p349 : rk_M 2 ce_m349 := ce_st (b1 := 2) (T := ce_m149) (rem := [(1, 3, 6)]) (rows := [0, 4, 2, 8, 11, 12, 6]) (cols := [19, 10, 24, 0, 6, 12, 21, 9, 23, 2, 16, 15, 5, 27]) (L := [(3, 2, [(4, 7, 0), (4, 9, 1)], [0, 4, 3, 7, 8, 10, 12], [8, 7, 10, 0, 2, 14, 13, 0, 4, 0, 19, 20, 17, 23], ce_m185), (0, 2, [(5, 12, 2)], [0, 2, 7, 9, 12, 4, 11], [0, 7, 16, 0, 4, 2, 11, 8, 20, 15, 13, 22, 0, 19], ce_m180), (1, 2, [(4, 4, 2)], [0, 7, 5, 13, 8, 11, 3], [0, 0, 9, 0, 0, 15, 18, 2, 24, 7, 21, 10, 4, 22], ce_m149), (2, 2, [], [0, 7, 5, 13, 8, 11, 3], [0, 0, 0, 0, 9, 15, 18, 2, 24, 7, 21, 10, 4, 22], ce_m149)]) (by decide +kernel) ce_p149 (ce_pc ce_p185 (ce_pc ce_p180 (ce_pc ce_p149 (ce_pc ce_p149 ce_pn))))
def ce_m350 : Nat → Nat → Int := ce_F 7 14 0xa280240000280241400001000009240008000249000048001208000041041040000241009
theorem ce_p350 : rk_M 2 ce_m350 := ce_st (b1 := 2) (T := ce_m197) (rem := [(1, 0, 1), (1, 1, 2), (1, 7, 6)]) (rows := [0, 4, 2, 6, 8, 12, 11]) (cols := [0, 0, 8, 6, 2, 18, 10, 0, 14, 12, 4, 16, 20, 23]) (L := [(0, 2, [(4, 4, 3), (4, 13, 6)], [0, 2, 11, 6, 4, 8, 13], [0, 7, 2, 12, 0, 10, 22, 9, 4, 20, 25, 18, 14], ce_m165), (1, 2, [(4, 4, 2), (5, 10, 7)], [0, 5, 13, 7, 3, 10, 8], [0, 0, 3, 7, 0, 5, 11, 22, 13, 24, 0, 17, 9, 20], ce_m158), (7, 2, [(4, 8, 6)], [0, 2, 4, 6, 8, 12, 11], [0, 0, 6, 12, 2, 18, 4, 0, 0, 10, 8, 14, 20, 17], ce_m274), (6, 2, [], [0, 2, 4, 6, 8, 12, 11], [0, 0, 2, 8, 10, 16, 0, 0, 4, 12, 6, 14, 18, 21], ce_m265), (4, 2, [], [0, 5, 13, 7, 3, 10, 8], [0, 0, 3, 7, 0, 5, 0, 0, 13, 24, 23, 17, 9, 20], ce_m158)]) (by decide +kernel) ce_p197 (ce_pc ce_p165 (ce_pc ce_p158 (ce_pc ce_p274 (ce_pc ce_p265 (ce_pc ce_p158 ce_pn)))))
def ce_m351 : Nat → Nat → Int := ce_F 7 14 0x11249000000200411400001001440040008208080200008288200001040048040001040049
theorem ce_p351 : rk_M 2 ce_m351 := ce_st (b1 := 2) (T := ce_m207) (rem := [(1, 0, 1), (1, 1, 3), (1, 2, 4)]) (rows := [0, 4, 9, 3, 6, 10, 12]) (cols := [0, 0, 0, 8, 2, 21, 10, 5, 6, 13, 16, 15, 18, 22]) (L := [(0, 2, [(5, 4, 1), (4, 12, 8)], [0, 10, 6, 4, 3, 9, 12], [0, 10, 3, 18, 0, 16, 13, 4, 9, 14, 22, 6, 0, 21], ce_m206), (1, 2, [(5, 7, 6)], [0, 6, 2, 10, 9, 5, 12], [0, 0, 19, 4, 14, 2, 7, 0, 10, 8, 16, 22, 21, 13], ce_m208), (2, 2, [(5, 6, 5), (4, 10, 8)], [0, 2, 10, 9, 5, 13, 6], [0, 0, 0, 12, 6, 24, 0, 10, 4, 18, 0, 16, 9, 21], ce_m161), (6, 2, [], [0, 6, 9, 5, 2, 10, 12], [0, 0, 0, 9, 6, 19, 0, 3, 13, 11, 16, 15, 4, 20], ce_m286), (8, 2, [], [0, 2, 10, 9, 5, 13, 6], [0, 0, 0, 12, 6, 24, 0, 10, 0, 18, 4, 16, 9, 21], ce_m161)]) (by decide +kernel) ce_p207 (ce_pc ce_p206 (ce_pc ce_p208 (ce_pc ce_p161 (ce_pc ce_p286 (ce_pc ce_p161 ce_pn)))))
def ce_m352 : Nat → Nat → Int := ce_F 7 14 0x11408408000282009040000241000208000240042201000008241000001209000000201009
theorem ce_p352 : rk_M 2 ce_m352 := ce_st (b1 := 2) (T := ce_m165) (rem := [(1, 0, 2), (4, 8, 1), (4, 13, 7)]) (rows := [0, 7, 5, 2, 10, 12, 8]) (cols := [0, 6, 3, 13, 8, 11, 19, 23, 0, 4, 24, 21, 15]) (L := [(0, 2, [(5, 12, 7)], [0, 2, 12, 11, 8, 4, 6], [0, 24, 8, 6, 22, 4, 2, 20, 18, 16, 13, 15, 0, 10], ce_m159), (1, 2, [(5, 10, 4)], [0, 6, 2, 5, 12, 9, 10], [0, 0, 2, 6, 23, 4, 16, 10, 15, 13, 0, 25, 8, 21], ce_m158), (4, 2, [(5, 9, 7)], [0, 6, 2, 5, 12, 9, 10], [0, 0, 2, 6, 0, 4, 16, 12, 15, 0, 22, 25, 8, 21], ce_m158), (7, 2, [], [0, 6, 2, 5, 12, 9, 10], [0, 0, 2, 6, 0, 4, 16, 0, 15, 13, 22, 25, 8, 21], ce_m158)]) (by decide +kernel) ce_p165 (ce_pc ce_p159 (ce_pc ce_p158 (ce_pc ce_p158 (ce_pc ce_p158 ce_pn))))
def ce_m353 : Nat → Nat → Int := ce_F 7 14 0x11480401000280409200000202010440001240008041002001048000008208200000041041
theorem ce_p353 : rk_M 2 ce_m353 := ce_st (b1 := 2) (T := ce_m163) (rem := [(1, 0, 3), (1, 6, 5)]) (rows := [0, 3, 11, 5, 6, 8, 12]) (cols := [0, 5, 16, 3, 25, 9, 0, 13, 11, 7, 15, 20, 19, 22]) (L := [(0, 2, [(5, 8, 2), (5, 9, 6)], [0, 3, 5, 9, 6, 11, 12], [0, 3, 9, 5, 13, 7, 18, 11, 0, 0, 21, 16, 15, 23], ce_m201), (6, 2, [(4, 12, 4)], [0, 2, 4, 6, 9, 12, 11], [0, 4, 12, 2, 16, 10, 0, 14, 7, 18, 8, 21, 0, 22], ce_m203), (2, 2, [(5, 11, 4)], [0, 3, 11, 5, 6, 8, 12], [0, 5, 0, 3, 21, 9, 0, 13, 11, 7, 15, 0, 19, 22], ce_m163), (4, 2, [], [0, 3, 11, 5, 6, 8, 12], [0, 5, 0, 3, 0, 9, 0, 13, 11, 7, 15, 20, 19, 22], ce_m163)]) (by decide +kernel) ce_p163 (ce_pc ce_p201 (ce_pc ce_p203 (ce_pc ce_p163 (ce_pc ce_p163 ce_pn))))
def ce_m354 : Nat → Nat → Int := ce_F 7 13 0x4120920000a009240000240402240040090042000208240040200210240001008241
theorem ce_p354 : rk_M 2 ce_m354 := ce_st (b1 := 2) (T := ce_m178) (rem := [(1, 0, 2), (1, 8, 5)]) (rows := [0, 8, 3, 6, 12, 5, 11]) (cols := [0, 11, 20, 18, 7, 5, 13, 3, 0, 9, 23, 14, 17]) (L := [(0, 2, [(5, 4, 2), (4, 12, 5)], [0, 3, 10, 4, 7, 13, 9], [0, 3, 7, 16, 0, 13, 9, 21, 15, 11, 5, 18], ce_m241), (8, 2, [(4, 9, 5), (4, 11, 3)], [0, 12, 4, 3, 9, 10, 6], [0, 4, 21, 9, 10, 6, 12, 2, 0, 0, 18, 0, 16], ce_m222), (2, 2, [(5, 3, 1)], [0, 12, 4, 3, 9, 10, 6], [0, 4, 0, 0, 10, 14, 12, 2, 0, 6, 18, 9, 16], ce_m222), (3, 2, [(4, 7, 5)], [0, 13, 2, 11, 9, 4, 6], [0, 20, 0, 0, 12, 2, 16, 0, 0, 4, 22, 15, 8], ce_m169), (5, 2, [], [0, 13, 2, 11, 9, 4, 6], [0, 20, 0, 0, 12, 0, 16, 2, 0, 4, 22, 15, 8], ce_m169)]) (by decide +kernel) ce_p178 (ce_pc ce_p241 (ce_pc ce_p222 (ce_pc ce_p222 (ce_pc ce_p169 (ce_pc ce_p169 ce_pn)))))
def ce_m355 : Nat → Nat → Int := ce_F 7 13 0x81250008011010448001000250040040440208001041008200040009208000009209
theorem ce_p355 : rk_M 2 ce_m355 := ce_st (b1 := 2) (T := ce_m185) (rem := [(1, 0, 1), (1, 1, 2)]) (rows := [0, 2, 4, 6, 8, 12, 10]) (cols := [0, 0, 4, 2, 6, 21, 8, 17, 10, 12, 14, 18, 23]) (L := [(0, 2, [(4, 10, 3), (4, 11, 4)], [0, 5, 7, 8, 10, 12, 3], [0, 6, 11, 3, 22, 18, 21, 8, 13, 5, 0, 0, 16], ce_m173), (1, 2, [(5, 6, 5), (4, 9, 3)], [0, 5, 7, 8, 10, 12, 3], [0, 0, 11, 5, 15, 20, 0, 8, 13, 0, 3, 22, 16], ce_m173), (5, 2, [(4, 4, 2)], [0, 5, 6, 3, 9, 13, 10], [0, 0, 3, 7, 0, 0, 19, 15, 4, 11, 12, 9, 21], ce_m228), (3, 2, [(5, 8, 4)], [0, 4, 6, 9, 11, 13, 2], [0, 0, 10, 0, 13, 0, 20, 9, 0, 4, 2, 23, 17], ce_m173), (4, 2, [], [0, 4, 6, 9, 11, 13, 2], [0, 0, 10, 0, 0, 0, 20, 9, 12, 4, 2, 23, 17], ce_m173)]) (by decide +kernel) ce_p185 (ce_pc ce_p173 (ce_pc ce_p173 (ce_pc ce_p228 (ce_pc ce_p173 (ce_pc ce_p173 ce_pn)))))
def ce_m356 : Nat → Nat → Int := ce_F 7 13 0x92000488010042081200201048009009400208048000240040001240048000000249
theorem ce_p356 : rk_M 2 ce_m356 := ce_st (b1 := 2) (T := ce_m195) (rem := [(4, 6, 1), (4, 9, 2)]) (rows := [0, 3, 11, 4, 7, 8, 12]) (cols := [11, 3, 8, 22, 14, 13, 0, 5, 7, 0, 16, 19, 21]) (L := [(1, 2, [(1, 0, 2)], [0, 6, 2, 4, 10, 13, 9], [0, 0, 10, 23, 6, 8, 18, 20, 17, 14, 12, 4, 3], ce_m170), (2, 2, [(5, 10, 3)], [0, 2, 8, 11, 4, 7, 13], [4, 0, 0, 14, 20, 8, 3, 6, 10, 13, 0, 16, 18], ce_m239), (3, 2, [(4, 5, 0)], [0, 7, 3, 5, 11, 12, 8], [9, 0, 0, 0, 7, 0, 19, 21, 16, 15, 13, 5, 2], ce_m170), (0, 2, [], [0, 7, 3, 5, 11, 12, 8], [0, 0, 0, 0, 7, 9, 19, 21, 16, 15, 13, 5, 2], ce_m170)]) (by decide +kernel) ce_p195 (ce_pc ce_p170 (ce_pc ce_p239 (ce_pc ce_p170 (ce_pc ce_p170 ce_pn))))
def ce_m357 : Nat → Nat → Int := ce_F 7 13 0x920044800a00a010201401040240048400201000240009040001209000000008049
theorem ce_p357 : rk_M 2 ce_m357 := ce_st (b1 := 2) (T := ce_m244) (rem := [(1, 0, 2), (1, 1, 3), (1, 5, 6)]) (rows := [0, 2, 6, 4, 12, 11, 8]) (cols := [0, 0, 19, 4, 2, 0, 16, 14, 7, 10, 8, 12, 21]) (L := [(0, 2, [(5, 9, 5), (4, 12, 2)], [0, 5, 3, 10, 9, 12, 7], [0, 8, 19, 5, 15, 2, 7, 11, 13, 0, 17, 21], ce_m258), (1, 2, [(4, 8, 2), (5, 10, 5)], [0, 8, 2, 7, 12, 10, 4], [0, 0, 8, 4, 14, 11, 18, 12, 0, 2, 0, 16, 20], ce_m231), (5, 2, [], [0, 2, 4, 7, 10, 12, 8], [0, 0, 16, 2, 7, 0, 8, 11, 4, 12, 15, 19, 20], ce_m232), (2, 2, [], [0, 8, 2, 7, 12, 10, 4], [0, 0, 0, 4, 14, 0, 18, 12, 8, 2, 10, 16, 20], ce_m231)]) (by decide +kernel) ce_p244 (ce_pc ce_p258 (ce_pc ce_p231 (ce_pc ce_p232 (ce_pc ce_p231 ce_pn))))
def ce_m358 : Nat → Nat → Int := ce_F 7 13 0x52001240011201401001009402040041000409001040009040001049000000040049
theorem ce_p358 : rk_M 2 ce_m358 := ce_st (b1 := 2) (T := ce_m188) (rem := [(1, 0, 2), (1, 1, 3)]) (rows := [0, 6, 2, 4, 8, 10, 13]) (cols := [0, 0, 2, 4, 7, 12, 21, 17, 8, 10, 14, 18, 22]) (L := [(0, 2, [(4, 9, 2), (5, 10, 6)], [0, 9, 4, 6, 2, 11, 13], [0, 7, 2, 10, 13, 23, 19, 9, 4, 0, 0, 20, 16], ce_m173), (1, 2, [(4, 8, 2), (5, 11, 6)], [0, 9, 4, 6, 2, 11, 13], [0, 0, 4, 10, 13, 23, 21, 9, 0, 2, 18, 0, 16], ce_m173), (6, 2, [], [0, 3, 5, 6, 10, 9, 13], [0, 0, 7, 3, 5, 9, 0, 15, 11, 12, 17, 19, 20], ce_m228), (2, 2, [], [0, 9, 4, 6, 2, 11, 13], [0, 0, 0, 10, 13, 23, 0, 9, 4, 2, 18, 20, 16], ce_m173)]) (by decide +kernel) ce_p188 (ce_pc ce_p173 (ce_pc ce_p173 (ce_pc ce_p228 (ce_pc ce_p173 ce_pn))))
def ce_m359 : Nat → Nat → Int := ce_F 7 13 0x48240408008209008008288400208001090041000049001040000048048000000249
theorem ce_p359 : rk_M 2 ce_m359 := ce_st (b1 := 2) (T := ce_m202) (rem := [(1, 2, 2), (4, 9, 3)]) (rows := [0, 7, 4, 3, 9, 12, 11]) (cols := [8, 5, 0, 13, 17, 11, 2, 6, 14, 0, 20, 19, 23]) (L := [(2, 2, [(4, 4, 0)], [0, 2, 7, 8, 10, 4, 13], [2, 4, 0, 14, 0, 6, 9, 10, 12, 20, 16, 22, 18], ce_m190), (0, 2, [(5, 7, 1)], [0, 2, 6, 5, 9, 10, 13], [0, 11, 0, 3, 4, 6, 8, 0, 14, 13, 16, 19, 20], ce_m251), (1, 2, [(5, 5, 3)], [0, 2, 7, 8, 10, 4, 13], [0, 0, 0, 7, 2, 0, 9, 10, 12, 20, 16, 22, 18], ce_m190), (3, 2, [], [0, 2, 7, 8, 10, 4, 13], [0, 0, 0, 0, 2, 6, 9, 10, 12, 20, 16, 22, 18], ce_m190)]) (by decide +kernel) ce_p202 (ce_pc ce_p190 (ce_pc ce_p251 (ce_pc ce_p190 (ce_pc ce_p190 ce_pn))))
def ce_m360 : Nat → Nat → Int := ce_F 7 13 0x82281040012400280201240008201011040081000048001240000201208000009009
theorem ce_p360 : rk_M 2 ce_m360 := ce_st (b1 := 2) (T := ce_m269) (rem := [(1, 4, 6), (4, 7, 1), (4, 11, 5)]) (rows := [0, 6, 2, 4, 8, 10, 13]) (cols := [4, 2, 6, 9, 0, 18, 14, 0, 10, 12, 17, 0, 20]) (L := [(4, 2, [(4, 12, 5)], [0, 3, 7, 10, 5, 9, 12], [7, 18, 5, 3, 0, 17, 9, 12, 21, 22, 15, 11], ce_m172), (1, 2, [(4, 3, 0)], [0, 2, 4, 7, 8, 12, 10], [4, 0, 2, 0, 0, 13, 6, 8, 10, 15, 17, 21, 19], ce_m248), (5, 2, [(4, 2, 0)], [0, 2, 6, 11, 4, 8, 13], [4, 0, 0, 2, 0, 0, 8, 13, 20, 23, 14, 10, 16], ce_m172), (0, 2, [], [0, 2, 6, 11, 4, 8, 13], [0, 0, 4, 2, 0, 0, 8, 13, 20, 23, 14, 10, 16], ce_m172)]) (by decide +kernel) ce_p269 (ce_pc ce_p172 (ce_pc ce_p248 (ce_pc ce_p172 (ce_pc ce_p172 ce_pn))))
def ce_m361 : Nat → Nat → Int := ce_F 7 13 0x80492008011200001208208210040008209000200240081048001208040000000249
theorem ce_p361 : rk_M 2 ce_m361 := ce_st (b1 := 2) (T := ce_m156) (rem := [(1, 1, 1)]) (rows := [0, 3, 4, 7, 9, 12, 10]) (cols := [18, 0, 16, 24, 5, 11, 3, 7, 14, 12, 21, 23, 9]) (L := [(1, 2, [(5, 12, 3)], [0, 12, 9, 3, 4, 7, 10], [13, 0, 14, 21, 22, 5, 17, 18, 9, 10, 3, 6], ce_m173), (3, 2, [(4, 8, 0), (4, 9, 2)], [0, 3, 4, 7, 9, 12, 10], [14, 0, 12, 0, 5, 11, 3, 7, 0, 0, 21, 23, 9], ce_m156), (0, 2, [(5, 5, 2)], [0, 3, 4, 7, 9, 12, 10], [0, 0, 10, 0, 5, 0, 3, 7, 14, 12, 21, 23, 9], ce_m156), (2, 2, [], [0, 3, 4, 7, 9, 12, 10], [0, 0, 0, 0, 5, 11, 3, 7, 14, 12, 21, 23, 9], ce_m156)]) (by decide +kernel) ce_p156 (ce_pc ce_p173 (ce_pc ce_p156 (ce_pc ce_p156 (ce_pc ce_p156 ce_pn))))
def ce_m362 : Nat → Nat → Int := ce_F 7 13 0x49081040009080281001000050288009040011000048008240000048208000040209
theorem ce_p362 : rk_M 2 ce_m362 := ce_st (b1 := 2) (T := ce_m164) (rem := [(4, 12, 6)]) (rows := [0, 2, 6, 11, 9, 13, 4]) (cols := [4, 22, 6, 24, 2, 8, 20, 16, 11, 19, 12, 14]) (L := [(0, 2, [(5, 2, 1), (5, 5, 3)], [0, 9, 3, 5, 6, 10, 12], [0, 9, 0, 10, 19, 0, 4, 3, 7, 13, 17, 20, 14], ce_m283), (1, 2, [(5, 9, 3)], [0, 4, 7, 9, 3, 11, 12], [0, 0, 2, 16, 12, 4, 8, 7, 15, 0, 19, 21, 11], ce_m288), (3, 2, [(5, 8, 6)], [0, 2, 6, 11, 9, 13, 4], [0, 0, 6, 0, 2, 8, 10, 16, 0, 19, 12, 14, 20], ce_m164), (6, 2, [], [0, 2, 6, 11, 9, 13, 4], [0, 0, 6, 0, 2, 8, 0, 16, 11, 19, 12, 14, 20], ce_m164)]) (by decide +kernel) ce_p164 (ce_pc ce_p283 (ce_pc ce_p288 (ce_pc ce_p164 (ce_pc ce_p164 ce_pn))))
def ce_m363 : Nat → Nat → Int := ce_F 7 13 0x92400009202412001000201090040002048401049200000040240048008000000249
theorem ce_p363 : rk_M 2 ce_m363 := ce_st (b1 := 2) (T := ce_m150) (rem := []) (rows := [0, 3, 11, 4, 6, 9, 12]) (cols := [7, 20, 22, 25, 3, 5, 8, 10, 12, 15, 17, 18, 27]) (L := [(0, 2, [(3, 6, 2), (5, 9, 1), (5, 10, 3), (1, 12, 2)], [0, 8, 6, 4, 10, 3], [0, 8, 17, 5, 13, 18, 14, 2, 10, 0, 0, 6], ce_m113), (1, 2, [(3, 6, 2), (5, 6, 2), (5, 7, 3), (1, 12, 2)], [0, 2, 10, 5, 7, 9], [0, 0, 10, 12, 2, 4, 0, 0, 15, 6, 8, 17], ce_m51), (2, 2, [(3, 6, 2), (5, 8, 3), (1, 12, 2)], [0, 2, 10, 5, 7, 9], [0, 0, 0, 14, 2, 4, 11, 13, 0, 6, 8, 17], ce_m51), (3, 2, [(3, 6, 2), (1, 12, 2)], [0, 2, 10, 5, 7, 9], [0, 0, 0, 0, 2, 4, 11, 13, 15, 6, 8, 17], ce_m51)]) (by decide +kernel) ce_p150 (ce_pc ce_p113 (ce_pc ce_p51 (ce_pc ce_p51 (ce_pc ce_p51 ce_pn))))
def ce_m364 : Nat → Nat → Int := ce_F 7 13 0x50401011008008082241040241001450010040000252000200000049008000000049
theorem ce_p364 : rk_M 2 ce_m364 := ce_st (b1 := 2) (T := ce_m150) (rem := [(4, 4, 0), (4, 8, 1)]) (rows := [0, 6, 5, 11, 2, 9, 12]) (cols := [4, 11, 25, 18, 0, 12, 14, 2, 0, 21, 6, 27, 16]) (L := [(0, 2, [], [0, 2, 7, 4, 12, 9, 11], [0, 3, 17, 4, 20, 8, 7, 24, 13, 14, 23, 10, 19], ce_m152), (1, 2, [(5, 9, 2)], [0, 7, 4, 10, 3, 8, 13], [0, 0, 21, 19, 5, 13, 15, 3, 10, 0, 7, 26, 17], ce_m150), (2, 2, [], [0, 7, 4, 10, 3, 8, 13], [0, 0, 0, 19, 5, 13, 15, 3, 10, 20, 7, 26, 17], ce_m150)]) (by decide +kernel) ce_p150 (ce_pc ce_p152 (ce_pc ce_p150 (ce_pc ce_p150 ce_pn)))
def ce_m365 : Nat → Nat → Int := ce_F 7 13 0x48042240010241041001011001040041001040201040009400001048040000040241
theorem ce_p365 : rk_M 2 ce_m365 := ce_st (b1 := 2) (T := ce_m192) (rem := [(1, 0, 3), (1, 6, 6)]) (rows := [0, 2, 9, 4, 10, 12, 6]) (cols := [0, 4, 17, 10, 8, 2, 0, 14, 18, 12, 22, 6, 20]) (L := [(0, 2, [(4, 10, 3), (5, 11, 6)], [0, 7, 5, 9, 10, 3, 13], [0, 6, 11, 5, 21, 13, 22, 3, 19, 9, 0, 0, 16], ce_m173), (6, 2, [(4, 8, 2)], [0, 3, 4, 8, 7, 12, 11], [0, 5, 6, 12, 3, 11, 0, 15, 0, 8, 16, 19, 21], ce_m263), (2, 2, [(4, 9, 3)], [0, 6, 4, 8, 11, 2, 12], [0, 7, 0, 8, 20, 12, 0, 2, 18, 0, 4, 22, 17], ce_m173), (3, 2, [], [0, 6, 4, 8, 11, 2, 12], [0, 7, 0, 0, 20, 12, 0, 2, 18, 8, 4, 22, 17], ce_m173)]) (by decide +kernel) ce_p192 (ce_pc ce_p173 (ce_pc ce_p263 (ce_pc ce_p173 (ce_pc ce_p173 ce_pn))))
def ce_m366 : Nat → Nat → Int := ce_F 7 13 0x50408240008208481000240010208002400211000240009040001240200000001209
theorem ce_p366 : rk_M 2 ce_m366 := ce_st (b1 := 2) (T := ce_m158) (rem := [(1, 0, 2)]) (rows := [0, 4, 2, 7, 8, 10, 13]) (cols := [0, 17, 2, 8, 19, 10, 12, 14, 4, 6, 20, 22, 24]) (L := [(0, 2, [(3, 3, 2), (5, 9, 4), (4, 10, 3)], [0, 5, 3, 0, 6, 8, 11], [0, 8, 4, 16, 11, 7, 13, 15, 2, 0, 0, 18, 20], ce_m71), (1, 2, [(3, 3, 2), (4, 8, 3), (5, 11, 4)], [0, 6, 2, 0, 5, 8, 10], [0, 0, 4, 6, 14, 10, 16, 18, 0, 12, 9, 0, 20], ce_m63), (4, 2, [(3, 3, 2)], [0, 3, 5, 0, 6, 8, 11], [0, 0, 7, 9, 0, 5, 3, 11, 15, 13, 16, 18, 20], ce_m65), (3, 2, [(3, 3, 2)], [0, 6, 2, 0, 5, 8, 10], [0, 0, 4, 0, 0, 10, 16, 18, 6, 12, 9, 15, 20], ce_m63)]) (by decide +kernel) ce_p158 (ce_pc ce_p71 (ce_pc ce_p63 (ce_pc ce_p65 (ce_pc ce_p63 ce_pn))))
def ce_m367 : Nat → Nat → Int := ce_F 7 13 0x8a012200000410440041048001400041001208001041040040001201200000009009
theorem ce_p367 : rk_M 2 ce_m367 := ce_st (b1 := 2) (T := ce_m205) (rem := [(1, 0, 2), (1, 1, 5)]) (rows := [0, 7, 3, 11, 9, 4, 12]) (cols := [0, 0, 11, 9, 13, 14, 5, 17, 3, 19, 7, 23, 21]) (L := [(0, 2, [(3, 5, 2), (1, 1, 2), (1, 8, 2), (4, 9, 4)], [0, 5, 3, 6, 9, 0, 10], [0, 0, 11, 9, 12, 2, 5, 15, 0, 0, 7, 16, 19], ce_m114), (1, 2, [(3, 5, 2), (1, 8, 2), (4, 11, 5)], [0, 10, 2, 8, 4, 0, 7], [0, 0, 20, 17, 2, 19, 6, 14, 0, 12, 4, 0, 10], ce_m67), (4, 2, [(3, 5, 2), (1, 8, 2), (5, 10, 5)], [0, 5, 3, 6, 9, 0, 10], [0, 0, 11, 13, 0, 8, 7, 19, 0, 14, 0, 20, 23], ce_m51), (5, 2, [(3, 5, 2), (1, 8, 2)], [0, 5, 3, 6, 9, 0, 10], [0, 0, 11, 13, 0, 0, 7, 19, 0, 14, 9, 20, 23], ce_m51)]) (by decide +kernel) ce_p205 (ce_pc ce_p114 (ce_pc ce_p67 (ce_pc ce_p51 (ce_pc ce_p51 ce_pn))))
def ce_m368 : Nat → Nat → Int := ce_F 7 13 0x8a01220000a081000041041001400040201208001201040040001201200000009009
theorem ce_p368 : rk_M 2 ce_m368 := ce_st (b1 := 2) (T := ce_m156) (rem := [(1, 0, 2), (1, 1, 5)]) (rows := [0, 9, 4, 12, 7, 3, 10]) (cols := [0, 0, 23, 10, 18, 24, 12, 7, 21, 4, 14, 8, 3]) (L := [(0, 2, [(4, 8, 4), (5, 9, 1)], [0, 3, 9, 5, 6, 10, 12], [0, 6, 5, 3, 9, 18, 11, 20, 0, 0, 17, 13, 14], ce_m285), (1, 2, [(4, 11, 5)], [0, 5, 8, 6, 2, 13, 11], [0, 0, 7, 5, 12, 20, 11, 19, 2, 22, 8, 0, 16], ce_m173), (5, 2, [(4, 10, 4)], [0, 7, 4, 12, 9, 3, 10], [0, 0, 21, 11, 12, 0, 14, 3, 23, 4, 0, 8, 7], ce_m156), (4, 2, [], [0, 7, 4, 12, 9, 3, 10], [0, 0, 21, 11, 0, 0, 14, 3, 23, 4, 12, 8, 7], ce_m156)]) (by decide +kernel) ce_p156 (ce_pc ce_p285 (ce_pc ce_p173 (ce_pc ce_p156 (ce_pc ce_p156 ce_pn))))
def ce_m369 : Nat → Nat → Int := ce_F 7 13 0x48002440010482000200442040008240040240000248200040001241000000001049
theorem ce_p369 : rk_M 2 ce_m369 := ce_st (b1 := 2) (T := ce_m280) (rem := [(1, 0, 2), (1, 1, 4), (1, 2, 5)]) (rows := [0, 8, 2, 10, 7, 5, 13]) (cols := [0, 0, 0, 14, 20, 10, 13, 8, 4, 2, 6, 18, 16]) (L := [(0, 2, [(5, 8, 1), (5, 9, 2)], [0, 8, 2, 12, 5, 7, 11], [0, 5, 3, 22, 17, 8, 11, 12, 0, 0, 7, 18, 20], ce_m173), (1, 2, [(5, 10, 2), (4, 11, 4)], [0, 2, 10, 4, 8, 7, 13], [0, 0, 11, 2, 16, 8, 6, 4, 21, 18, 0, 0, 14], ce_m155), (2, 2, [(4, 12, 4)], [0, 2, 10, 4, 8, 7, 13], [0, 0, 0, 2, 14, 8, 6, 4, 21, 18, 10, 16], ce_m155), (4, 2, [], [0, 2, 10, 4, 8, 7, 13], [0, 0, 0, 2, 0, 8, 6, 4, 21, 18, 10, 16, 14], ce_m155)]) (by decide +kernel) ce_p280 (ce_pc ce_p173 (ce_pc ce_p155 (ce_pc ce_p155 (ce_pc ce_p155 ce_pn))))
def ce_m370 : Nat → Nat → Int := ce_F 7 13 0x4a240040008001402200200011440008040088000201040200008041008000001049
theorem ce_p370 : rk_M 2 ce_m370 := ce_st (b1 := 2) (T := ce_m216) (rem := [(1, 0, 1), (1, 1, 2)]) (rows := [0, 3, 5, 6, 8, 10, 12]) (cols := [0, 0, 16, 3, 8, 5, 7, 14, 11, 13, 18, 20, 22]) (L := [(0, 2, [(5, 3, 2)], [0, 10, 4, 3, 9, 7, 12], [0, 14, 9, 0, 10, 22, 6, 3, 26, 16, 13, 25, 21], ce_m151), (1, 2, [(4, 11, 4)], [0, 3, 5, 8, 6, 10, 13], [0, 0, 6, 5, 14, 3, 11, 16, 9, 13, 18, 0, 20], ce_m294), (2, 2, [], [0, 7, 4, 8, 2, 10, 12], [0, 0, 0, 9, 10, 3, 14, 22, 21, 16, 24, 12, 26], ce_m151), (4, 2, [], [0, 2, 4, 11, 9, 7, 12], [0, 0, 0, 8, 0, 4, 6, 19, 12, 16, 27, 25, 21], ce_m151)]) (by decide +kernel) ce_p216 (ce_pc ce_p151 (ce_pc ce_p294 (ce_pc ce_p151 (ce_pc ce_p151 ce_pn))))
def ce_m371 : Nat → Nat → Int := ce_F 7 13 0x4a040088008001011408208040048009001001200052200000000008240000000209
theorem ce_p371 : rk_M 2 ce_m371 := ce_st (b1 := 2) (T := ce_m167) (rem := [(4, 12, 3)]) (rows := [0, 2, 5, 10, 6, 9, 13]) (cols := [23, 2, 4, 19, 6, 12, 8, 11, 15, 16, 24, 20]) (L := [(0, 2, [(4, 2, 1), (5, 10, 3)], [0, 4, 13, 8, 2, 7, 10], [0, 2, 0, 21, 12, 22, 8, 19, 24, 4, 0, 6, 17], ce_m165), (3, 2, [], [0, 3, 7, 5, 11, 8, 12], [0, 3, 5, 0, 7, 9, 15, 12, 18, 11, 17, 23, 20], ce_m213), (1, 2, [], [0, 4, 13, 8, 2, 7, 10], [0, 0, 2, 0, 12, 22, 8, 19, 24, 4, 20, 6, 17], ce_m165)]) (by decide +kernel) ce_p167 (ce_pc ce_p165 (ce_pc ce_p213 (ce_pc ce_p165 ce_pn)))
def ce_m372 : Nat → Nat → Int := ce_F 7 13 0x12240080211010440001050400001048000240000240008200001208200000008049
theorem ce_p372 : rk_M 2 ce_m372 := ce_st (b1 := 2) (T := ce_m291) (rem := [(1, 0, 4), (1, 2, 1), (1, 5, 5)]) (rows := [0, 3, 11, 9, 4, 6, 12]) (cols := [0, 20, 0, 11, 5, 0, 7, 3, 16, 18, 15, 13, 8]) (L := [(0, 2, [(4, 7, 2), (4, 9, 1), (5, 12, 5)], [0, 13, 5, 3, 7, 9, 10], [0, 15, 20, 5, 9, 10, 22, 0, 13, 0, 3, 7], ce_m156), (2, 2, [(5, 6, 5)], [0, 3, 8, 10, 4, 6, 12], [0, 10, 0, 6, 20, 2, 0, 5, 16, 18, 12, 14, 8], ce_m285), (5, 2, [(4, 8, 1)], [0, 13, 5, 3, 7, 9, 10], [0, 13, 0, 5, 9, 0, 22, 20, 0, 15, 3, 7, 11], ce_m156), (1, 2, [], [0, 13, 5, 3, 7, 9, 10], [0, 0, 0, 5, 9, 0, 22, 20, 13, 15, 3, 7, 11], ce_m156)]) (by decide +kernel) ce_p291 (ce_pc ce_p156 (ce_pc ce_p285 (ce_pc ce_p156 (ce_pc ce_p156 ce_pn))))
def ce_m373 : Nat → Nat → Int := ce_F 7 13 0x11440040010441001001040040048041001001200049200000200008240008000209
theorem ce_p373 : rk_M 2 ce_m373 := ce_st (b1 := 2) (T := ce_m214) (rem := [(1, 0, 3), (1, 3, 5)]) (rows := [0, 8, 2, 4, 12, 6, 11]) (cols := [0, 8, 22, 0, 20, 2, 14, 4, 12, 6, 11, 16, 19]) (L := [(0, 2, [(4, 2, 1)], [0, 11, 7, 9, 3, 4, 13], [0, 7, 0, 10, 27, 13, 5, 8, 23, 20, 15, 25, 3], ce_m150), (3, 2, [(4, 11, 9)], [0, 10, 4, 7, 12, 8, 2], [0, 19, 26, 0, 6, 8, 20, 10, 2, 5, 16, 0, 25], ce_m150), (1, 2, [(5, 10, 9)], [0, 10, 4, 7, 12, 8, 2], [0, 0, 26, 0, 6, 8, 20, 10, 2, 17, 0, 5, 25], ce_m150), (9, 2, [], [0, 10, 4, 7, 12, 8, 2], [0, 0, 26, 0, 6, 8, 20, 10, 2, 0, 16, 5, 25], ce_m150)]) (by decide +kernel) ce_p214 (ce_pc ce_p150 (ce_pc ce_p150 (ce_pc ce_p150 (ce_pc ce_p150 ce_pn))))
def ce_m374 : Nat → Nat → Int := ce_F 7 13 0x88082200008282000008000488001048000240000240040200001201200000008049
theorem ce_p374 : rk_M 2 ce_m374 := ce_st (b1 := 2) (T := ce_m219) (rem := [(1, 1, 2), (1, 2, 1)]) (rows := [0, 3, 5, 7, 8, 10, 12]) (cols := [18, 0, 0, 5, 7, 20, 9, 3, 13, 11, 17, 15, 22]) (L := [(1, 2, [], [0, 3, 12, 5, 6, 8, 10], [12, 0, 17, 5, 19, 14, 7, 3, 25, 23, 11, 9, 20], ce_m166), (2, 2, [(5, 6, 5), (5, 7, 0)], [0, 7, 13, 10, 4, 2, 9], [2, 0, 0, 17, 24, 10, 0, 0, 22, 9, 6, 21, 4], ce_m165), (0, 2, [(5, 12, 5)], [0, 7, 13, 10, 4, 2, 9], [0, 0, 0, 17, 24, 5, 11, 3, 22, 9, 6, 21], ce_m165), (5, 2, [], [0, 7, 13, 10, 4, 2, 9], [0, 0, 0, 17, 24, 0, 11, 3, 22, 9, 6, 21, 4], ce_m165)]) (by decide +kernel) ce_p219 (ce_pc ce_p166 (ce_pc ce_p165 (ce_pc ce_p165 (ce_pc ce_p165 ce_pn))))
def ce_m375 : Nat → Nat → Int := ce_F 7 13 0x8a011000008050088000000011401041000048001040001040001041040000041009
theorem ce_p375 : rk_M 2 ce_m375 := ce_st (b1 := 2) (T := ce_m220) (rem := [(1, 1, 1), (1, 6, 6)]) (rows := [0, 3, 11, 9, 6, 12, 4]) (cols := [12, 0, 15, 5, 18, 7, 0, 3, 23, 21, 11, 8, 17]) (L := [(1, 2, [(5, 5, 4), (5, 7, 6)], [0, 6, 3, 9, 5, 10, 12], [3, 0, 5, 10, 13, 0, 19, 0, 7, 21, 9, 23, 24], ce_m165), (6, 2, [], [0, 3, 9, 7, 4, 10, 12], [10, 0, 9, 3, 16, 5, 0, 7, 15, 13, 21, 19, 22], ce_m217), (0, 2, [(5, 8, 4)], [0, 6, 12, 2, 5, 8, 10], [0, 0, 8, 2, 22, 10, 0, 16, 0, 4, 25, 6, 20], ce_m165), (4, 2, [], [0, 6, 12, 2, 5, 8, 10], [0, 0, 8, 2, 0, 10, 0, 16, 23, 4, 25, 6, 20], ce_m165)]) (by decide +kernel) ce_p220 (ce_pc ce_p165 (ce_pc ce_p217 (ce_pc ce_p165 (ce_pc ce_p165 ce_pn))))
def ce_m376 : Nat → Nat → Int := ce_F 7 13 0x8a011000008088000408201009000009001040000008041200000201048000000081
theorem ce_p376 : rk_M 2 ce_m376 := ce_st (b1 := 1) (T := ce_m148) (rem := []) (rows := [0, 4, 7, 11, 12, 2, 9]) (cols := [8, 18, 7, 14, 21, 31, 16, 25, 10, 3, 28, 27, 4]) (L := [(0, 1, [(4, 2, 1)], [0, 4, 7, 9, 10, 13, 2], [0, 18, 0, 16, 23, 29, 8, 7, 30, 27, 5, 2, 11], ce_m148), (2, 1, [], [0, 4, 7, 9, 10, 13, 2], [0, 18, 0, 16, 23, 29, 8, 7, 30, 27, 5, 2, 11], ce_m148)]) (by decide +kernel) ce_p148 (ce_pc ce_p148 (ce_pc ce_p148 ce_pn))
def ce_m377 : Nat → Nat → Int := ce_F 7 12 0x40a40044804a04040820004a408240240009008048408001201201000000049
theorem ce_p377 : rk_M 2 ce_m377 := ce_st (b1 := 2) (T := ce_m169) (rem := [(1, 2, 6)]) (rows := [0, 2, 5, 12, 7, 11, 9]) (cols := [6, 19, 0, 2, 4, 9, 17, 12, 10, 15, 21, 23]) (L := [(2, 2, [(4, 6, 1), (4, 7, 0)], [0, 3, 4, 13, 6, 10, 8], [13, 16, 0, 3, 5, 8, 0, 0, 11, 14, 20, 22], ce_m169), (0, 2, [(5, 3, 1)], [0, 3, 4, 13, 6, 10, 8], [0, 2, 0, 0, 5, 8, 16, 13, 11, 14, 20, 22], ce_m169), (1, 2, [], [0, 3, 4, 13, 6, 10, 8], [0, 0, 0, 3, 5, 8, 16, 13, 11, 14, 20, 22], ce_m169)]) (by decide +kernel) ce_p169 (ce_pc ce_p169 (ce_pc ce_p169 (ce_pc ce_p169 ce_pn)))
def ce_m378 : Nat → Nat → Int := ce_F 7 12 0x29100820004124004120040224804005204000a480008001209001000000249
theorem ce_p378 : rk_M 2 ce_m378 := ce_st (b1 := 2) (T := ce_m173) (rem := [(4, 11, 3)]) (rows := [0, 8, 7, 11, 3, 12, 5]) (cols := [22, 3, 17, 5, 8, 11, 20, 12, 15, 6, 18]) (L := [(0, 2, [(5, 4, 2), (5, 7, 1)], [0, 9, 6, 2, 4, 11, 12], [0, 4, 2, 16, 0, 13, 7, 0, 19, 10, 15, 8], ce_m225), (1, 2, [(4, 6, 2), (5, 9, 3)], [0, 8, 7, 11, 4, 12, 2], [0, 0, 20, 2, 11, 8, 0, 15, 12, 0, 17, 4], ce_m173), (3, 2, [(4, 10, 2)], [0, 8, 7, 11, 4, 12, 2], [0, 0, 17, 0, 11, 8, 20, 15, 12, 3, 0, 4], ce_m173), (2, 2, [], [0, 8, 7, 11, 4, 12, 2], [0, 0, 0, 0, 11, 8, 20, 15, 12, 3, 17, 4], ce_m173)]) (by decide +kernel) ce_p173 (ce_pc ce_p225 (ce_pc ce_p173 (ce_pc ce_p173 (ce_pc ce_p173 ce_pn))))
def ce_m379 : Nat → Nat → Int := ce_F 7 12 0x28808004820208024804020824100808a040280011008001241001000000249
theorem ce_p379 : rk_M 2 ce_m379 := ce_st (b1 := 2) (T := ce_m173) (rem := [(4, 7, 0), (4, 11, 1)]) (rows := [0, 4, 11, 8, 2, 6, 12]) (cols := [4, 20, 12, 2, 10, 8, 14, 0, 6, 22, 16]) (L := [(0, 2, [(5, 6, 2), (5, 8, 3)], [0, 6, 9, 12, 2, 5, 11], [0, 3, 17, 9, 22, 12, 0, 4, 0, 21, 10, 15], ce_m169), (3, 2, [(4, 9, 2), (5, 10, 1)], [0, 2, 12, 5, 8, 7, 11], [0, 25, 17, 0, 10, 13, 8, 6, 4, 0, 0, 23], ce_m153), (1, 2, [(4, 5, 2)], [0, 2, 12, 5, 8, 7, 11], [0, 0, 13, 0, 10, 0, 8, 6, 4, 17, 24, 23], ce_m153), (2, 2, [], [0, 2, 12, 5, 8, 7, 11], [0, 0, 0, 0, 10, 13, 8, 6, 4, 17, 24, 23], ce_m153)]) (by decide +kernel) ce_p173 (ce_pc ce_p169 (ce_pc ce_p153 (ce_pc ce_p153 (ce_pc ce_p153 ce_pn))))
def ce_m380 : Nat → Nat → Int := ce_F 7 12 0x250010240202440208202012200000449008041200041008048009000000249
theorem ce_p380 : rk_M 2 ce_m380 := ce_st (b1 := 2) (T := ce_m155) (rem := [(4, 6, 1), (4, 10, 2), (4, 11, 3)]) (rows := [0, 6, 8, 4, 3, 13, 11]) (cols := [10, 14, 20, 9, 2, 4, 0, 17, 6, 18]) (L := [(0, 2, [(5, 7, 1), (5, 9, 2)], [0, 9, 10, 3, 4, 7, 12], [0, 7, 12, 20, 3, 9, 5, 0, 17, 0, 14, 18], ce_m241), (2, 2, [(5, 8, 3)], [0, 4, 3, 10, 12, 8, 7], [0, 2, 0, 12, 20, 16, 14, 11, 0, 8, 5, 23], ce_m169), (1, 2, [(5, 5, 3)], [0, 6, 9, 10, 5, 13, 3], [0, 0, 0, 9, 16, 0, 22, 25, 12, 4, 7, 11], ce_m153), (3, 2, [], [0, 6, 9, 10, 5, 13, 3], [0, 0, 0, 0, 16, 8, 22, 25, 12, 4, 7, 11], ce_m153)]) (by decide +kernel) ce_p155 (ce_pc ce_p241 (ce_pc ce_p169 (ce_pc ce_p153 (ce_pc ce_p153 ce_pn))))
def ce_m381 : Nat → Nat → Int := ce_F 7 12 0x29144000028004900000a209000040410240008208408000041241001040049
theorem ce_p381 : rk_M 2 ce_m381 := ce_st (b1 := 2) (T := ce_m234) (rem := [(1, 0, 1), (1, 1, 2)]) (rows := [0, 2, 5, 6, 8, 10, 12]) (cols := [0, 0, 4, 2, 6, 9, 12, 11, 19, 15, 16, 20]) (L := [(0, 2, [(1, 2, 3), (4, 11, 6)], [0, 9, 10, 3, 6, 4, 12], [0, 18, 0, 7, 10, 2, 16, 8, 13, 20, 5], ce_m223), (1, 2, [(4, 3, 2), (5, 9, 8)], [0, 9, 10, 3, 6, 4, 12], [0, 0, 7, 0, 10, 2, 14, 8, 21, 0, 5, 16], ce_m223), (2, 2, [(5, 10, 6)], [0, 4, 3, 8, 11, 7, 13], [0, 0, 0, 2, 6, 5, 9, 11, 13, 17, 0, 15], ce_m300), (8, 2, [(4, 6, 4)], [0, 9, 10, 3, 6, 4, 12], [0, 0, 0, 7, 10, 2, 0, 8, 0, 20, 5, 16], ce_m223), (6, 2, [], [0, 9, 10, 3, 6, 4, 12], [0, 0, 0, 7, 10, 2, 0, 8, 0, 20, 5, 16], ce_m223)]) (by decide +kernel) ce_p234 (ce_pc ce_p223 (ce_pc ce_p223 (ce_pc ce_p300 (ce_pc ce_p223 (ce_pc ce_p223 ce_pn)))))
def ce_m382 : Nat → Nat → Int := ce_F 7 12 0x210440240282008201011041040080209001041040048008208009000000249
theorem ce_p382 : rk_M 2 ce_m382 := ce_st (b1 := 2) (T := ce_m187) (rem := [(4, 5, 0), (4, 6, 2), (4, 11, 3)]) (rows := [0, 2, 4, 6, 8, 10, 12]) (cols := [2, 8, 10, 4, 6, 0, 0, 12, 14, 20, 22]) (L := [(1, 2, [(5, 9, 2), (5, 10, 0)], [0, 8, 12, 2, 4, 6, 10], [2, 0, 12, 20, 6, 4, 8, 10, 14, 0, 0, 16], ce_m254), (3, 2, [(4, 7, 0), (4, 8, 2)], [0, 6, 8, 2, 4, 10, 12], [12, 0, 14, 0, 8, 2, 10, 0, 0, 19, 17, 4], ce_m187), (0, 2, [], [0, 4, 11, 2, 13, 6, 9], [0, 0, 7, 0, 4, 10, 21, 12, 19, 16, 15, 8], ce_m229), (2, 2, [], [0, 6, 8, 2, 4, 10, 12], [0, 0, 0, 0, 8, 2, 10, 12, 14, 19, 17, 4], ce_m187)]) (by decide +kernel) ce_p187 (ce_pc ce_p254 (ce_pc ce_p187 (ce_pc ce_p229 (ce_pc ce_p187 ce_pn))))
def ce_m383 : Nat → Nat → Int := ce_F 7 12 0x442088040281041001048008209042402200009200088000009041000040209
theorem ce_p383 : rk_M 2 ce_m383 := ce_st (b1 := 2) (T := ce_m173) (rem := [(4, 9, 1), (4, 11, 6)]) (rows := [0, 10, 4, 6, 2, 13, 8]) (cols := [16, 4, 11, 2, 21, 8, 23, 6, 14, 0, 12]) (L := [(1, 2, [(5, 7, 3)], [0, 2, 12, 5, 7, 8, 11], [12, 0, 15, 9, 2, 7, 18, 0, 16, 11, 5, 20], ce_m225), (3, 2, [(4, 4, 0), (5, 10, 6)], [0, 10, 3, 6, 5, 13, 8], [21, 0, 8, 0, 0, 11, 14, 3, 13, 5, 0, 23], ce_m173), (6, 2, [(4, 5, 0)], [0, 10, 3, 6, 5, 13, 8], [11, 0, 8, 0, 21, 0, 0, 3, 13, 5, 15, 23], ce_m173), (0, 2, [], [0, 10, 3, 6, 5, 13, 8], [0, 0, 8, 0, 21, 11, 0, 3, 13, 5, 15, 23], ce_m173)]) (by decide +kernel) ce_p173 (ce_pc ce_p225 (ce_pc ce_p173 (ce_pc ce_p173 (ce_pc ce_p173 ce_pn))))
def ce_m384 : Nat → Nat → Int := ce_F 7 12 0x248090200202400241010442040082009001049200008000048049000000249
theorem ce_p384 : rk_M 2 ce_m384 := ce_st (b1 := 2) (T := ce_m187) (rem := [(4, 11, 3)]) (rows := [0, 2, 4, 6, 9, 10, 12]) (cols := [2, 8, 16, 4, 6, 12, 20, 14, 22, 10, 18]) (L := [(1, 2, [(5, 7, 2), (5, 8, 0)], [0, 7, 13, 3, 4, 8, 10], [11, 0, 8, 4, 7, 3, 12, 0, 0, 21, 18, 16], ce_m252), (3, 2, [(4, 5, 0), (4, 6, 2)], [0, 13, 11, 6, 8, 2, 4], [19, 0, 17, 0, 10, 0, 0, 7, 3, 12, 14, 4], ce_m156), (0, 2, [(5, 4, 2)], [0, 13, 11, 6, 8, 2, 4], [0, 0, 11, 0, 0, 19, 17, 7, 3, 12, 14, 4], ce_m156), (2, 2, [], [0, 13, 11, 6, 8, 2, 4], [0, 0, 0, 0, 10, 19, 17, 7, 3, 12, 14, 4], ce_m156)]) (by decide +kernel) ce_p187 (ce_pc ce_p252 (ce_pc ce_p156 (ce_pc ce_p156 (ce_pc ce_p156 ce_pn))))
def ce_m385 : Nat → Nat → Int := ce_F 7 12 0x248012200401082048248040201041402040008200209000049001000000249
theorem ce_p385 : rk_M 2 ce_m385 := ce_st (b1 := 2) (T := ce_m173) (rem := [(4, 8, 2), (4, 9, 3)]) (rows := [0, 8, 5, 7, 10, 3, 13]) (cols := [11, 5, 3, 19, 12, 22, 8, 7, 0, 0, 21, 16]) (L := [(1, 2, [(4, 6, 0), (5, 7, 2), (4, 11, 3)], [0, 9, 4, 6, 11, 2, 12], [9, 0, 7, 17, 13, 23, 0, 0, 2, 18, 20], ce_m173), (2, 2, [], [0, 3, 5, 6, 9, 10, 12], [3, 0, 0, 15, 13, 5, 9, 7, 16, 11, 18, 21], ce_m222), (0, 2, [(5, 5, 3)], [0, 9, 4, 6, 11, 2, 12], [0, 0, 0, 22, 13, 0, 9, 6, 2, 18, 20, 17], ce_m173), (3, 2, [], [0, 9, 4, 6, 11, 2, 12], [0, 0, 0, 0, 13, 23, 9, 6, 2, 18, 20, 17], ce_m173)]) (by decide +kernel) ce_p173 (ce_pc ce_p173 (ce_pc ce_p222 (ce_pc ce_p173 (ce_pc ce_p173 ce_pn))))
def ce_m386 : Nat → Nat → Int := ce_F 7 12 0x49024800024840120001101044020a000208041001041000049200000200049
theorem ce_p386 : rk_M 2 ce_m386 := ce_st (b1 := 2) (T := ce_m243) (rem := [(1, 0, 2), (1, 1, 3)]) (rows := [0, 6, 5, 2, 9, 10, 12]) (cols := [0, 0, 9, 4, 7, 10, 14, 21, 3, 12, 19, 16]) (L := [(0, 2, [(1, 2, 4), (5, 10, 7)], [0, 4, 9, 10, 3, 6, 12], [0, 18, 0, 2, 10, 4, 16, 13, 7, 8, 0, 20], ce_m223), (1, 2, [(4, 8, 2), (5, 11, 7)], [0, 4, 9, 10, 3, 6, 12], [0, 0, 7, 2, 10, 4, 16, 21, 0, 8, 12], ce_m223), (2, 2, [], [0, 6, 5, 2, 9, 10, 12], [0, 0, 0, 4, 7, 8, 14, 12, 3, 10, 19, 16], ce_m300), (7, 2, [], [0, 4, 9, 10, 3, 6, 12], [0, 0, 0, 2, 10, 4, 16, 0, 7, 8, 12, 20], ce_m223)]) (by decide +kernel) ce_p243 (ce_pc ce_p223 (ce_pc ce_p223 (ce_pc ce_p300 (ce_pc ce_p223 ce_pn))))
def ce_m387 : Nat → Nat → Int := ce_F 7 12 0x212042200240048041082210200401400088008201041000009041000040209
theorem ce_p387 : rk_M 2 ce_m387 := ce_st (b1 := 2) (T := ce_m191) (rem := [(1, 1, 3)]) (rows := [0, 4, 6, 3, 8, 10, 12]) (cols := [8, 0, 2, 20, 10, 12, 22, 4, 7, 16, 18, 14]) (L := [(1, 2, [(4, 2, 0), (5, 8, 3), (4, 11, 6)], [0, 6, 2, 13, 10, 8, 5], [6, 0, 0, 19, 4, 14, 17, 8, 0, 2, 12], ce_m180), (3, 2, [(4, 10, 6)], [0, 4, 6, 3, 10, 8, 12], [14, 0, 4, 0, 10, 12, 18, 2, 9, 16, 0, 6], ce_m304), (6, 2, [(4, 4, 0)], [0, 6, 2, 13, 10, 8, 5], [4, 0, 6, 0, 0, 14, 0, 8, 18, 2, 12, 17], ce_m180), (0, 2, [], [0, 6, 2, 13, 10, 8, 5], [0, 0, 6, 0, 4, 14, 0, 8, 18, 2, 12, 17], ce_m180)]) (by decide +kernel) ce_p191 (ce_pc ce_p180 (ce_pc ce_p304 (ce_pc ce_p180 (ce_pc ce_p180 ce_pn))))
def ce_m388 : Nat → Nat → Int := ce_F 7 12 0x209088200440212040201408008041002048008200241000009201000040049
theorem ce_p388 : rk_M 2 ce_m388 := ce_st (b1 := 2) (T := ce_m180) (rem := [(1, 6, 6)]) (rows := [0, 3, 5, 10, 9, 12, 7]) (cols := [3, 13, 19, 5, 9, 7, 0, 17, 15, 11, 22, 21]) (L := [(6, 2, [(4, 3, 0), (4, 8, 1)], [0, 3, 7, 4, 9, 10, 13], [7, 11, 12, 0, 3, 5, 0, 8, 0, 17, 14, 19], ce_m307), (0, 2, [(5, 4, 2)], [0, 2, 10, 7, 12, 5, 8], [0, 9, 5, 6, 0, 2, 0, 19, 21, 12, 11, 14], ce_m224), (1, 2, [(4, 7, 2)], [0, 3, 11, 4, 9, 6, 13], [0, 0, 14, 9, 5, 7, 0, 0, 16, 23, 10, 21], ce_m180), (2, 2, [], [0, 3, 11, 4, 9, 6, 13], [0, 0, 0, 9, 5, 7, 0, 14, 16, 23, 10, 21], ce_m180)]) (by decide +kernel) ce_p180 (ce_pc ce_p307 (ce_pc ce_p224 (ce_pc ce_p180 (ce_pc ce_p180 ce_pn))))
def ce_m389 : Nat → Nat → Int := ce_F 7 12 0x252000240202480200050240040001211008040048041009001009000000249
theorem ce_p389 : rk_M 2 ce_m389 := ce_st (b1 := 2) (T := ce_m155) (rem := [(4, 4, 1), (4, 10, 2), (4, 11, 3)]) (rows := [0, 6, 8, 10, 12, 3, 5]) (cols := [10, 18, 17, 3, 0, 20, 6, 8, 4, 14]) (L := [(0, 2, [(5, 5, 1), (5, 9, 2)], [0, 7, 3, 4, 11, 8, 12], [0, 4, 20, 12, 6, 0, 9, 10, 14, 0, 17, 22], ce_m173), (1, 2, [(5, 8, 3)], [0, 4, 3, 6, 9, 12, 11], [0, 0, 3, 17, 8, 5, 13, 22, 0, 14, 11, 21], ce_m169), (3, 2, [(4, 6, 2)], [0, 6, 9, 2, 12, 5, 11], [0, 0, 12, 0, 4, 7, 0, 10, 8, 22, 25, 17], ce_m153), (2, 2, [], [0, 6, 9, 2, 12, 5, 11], [0, 0, 0, 0, 4, 7, 12, 10, 8, 22, 25, 17], ce_m153)]) (by decide +kernel) ce_p155 (ce_pc ce_p173 (ce_pc ce_p169 (ce_pc ce_p153 (ce_pc ce_p153 ce_pn))))
def ce_m390 : Nat → Nat → Int := ce_F 7 12 0x209048001240041201042210200402202040008200209000048041000001209
theorem ce_p390 : rk_M 2 ce_m390 := ce_st (b1 := 2) (T := ce_m182) (rem := [(1, 1, 2)]) (rows := [0, 2, 4, 6, 8, 12, 10]) (cols := [2, 0, 4, 10, 18, 8, 14, 6, 16, 12, 20, 22]) (L := [(1, 2, [(4, 6, 0), (4, 10, 3)], [0, 2, 12, 4, 7, 8, 10], [6, 0, 4, 11, 17, 2, 0, 18, 15, 24, 0, 13], ce_m156), (4, 2, [(4, 7, 3)], [0, 6, 8, 12, 3, 5, 10], [4, 0, 14, 11, 0, 2, 13, 0, 18, 16, 7, 21], ce_m252), (3, 2, [(4, 5, 0)], [0, 7, 2, 8, 10, 12, 4], [14, 0, 11, 0, 0, 0, 18, 6, 12, 4, 24, 16], ce_m156), (0, 2, [], [0, 7, 2, 8, 10, 12, 4], [0, 0, 11, 0, 0, 14, 18, 6, 12, 4, 24, 16], ce_m156)]) (by decide +kernel) ce_p182 (ce_pc ce_p156 (ce_pc ce_p252 (ce_pc ce_p156 (ce_pc ce_p156 ce_pn))))
def ce_m391 : Nat → Nat → Int := ce_F 7 12 0x290449000201401080012008408040080488009001201000240240000009009
theorem ce_p391 : rk_M 2 ce_m391 := ce_st (b1 := 2) (T := ce_m184) (rem := [(1, 0, 2)]) (rows := [0, 2, 4, 7, 9, 11, 12]) (cols := [0, 17, 2, 4, 14, 21, 8, 12, 6, 10, 19, 23]) (L := [(0, 2, [(3, 4, 2), (5, 9, 5), (4, 11, 4)], [0, 7, 4, 8, 0, 2, 10], [0, 13, 5, 8, 10, 15, 17, 7, 2, 0, 18], ce_m113), (1, 2, [(3, 4, 2), (5, 10, 5)], [0, 4, 2, 7, 0, 8, 10], [0, 0, 6, 2, 8, 16, 10, 12, 4, 14, 0, 18], ce_m91), (5, 2, [(3, 4, 2), (4, 8, 4)], [0, 4, 6, 3, 0, 9, 10], [0, 0, 4, 2, 12, 0, 6, 14, 0, 18, 9, 21], ce_m57), (4, 2, [(3, 4, 2)], [0, 4, 6, 3, 0, 9, 10], [0, 0, 4, 2, 0, 0, 6, 14, 12, 18, 9, 21], ce_m57)]) (by decide +kernel) ce_p184 (ce_pc ce_p113 (ce_pc ce_p91 (ce_pc ce_p57 (ce_pc ce_p57 ce_pn))))
def ce_m392 : Nat → Nat → Int := ce_F 7 12 0x40a090040240012208042410200201202008008200049000049001000000249
theorem ce_p392 : rk_M 2 ce_m392 := ce_st (b1 := 2) (T := ce_m173) (rem := [(4, 9, 2), (4, 10, 3)]) (rows := [0, 6, 5, 10, 9, 13, 3]) (cols := [7, 19, 5, 23, 20, 12, 2, 11, 8, 0, 0, 16]) (L := [(0, 2, [(5, 4, 1), (5, 6, 2)], [0, 7, 4, 11, 8, 12, 2], [0, 20, 2, 15, 0, 13, 0, 10, 9, 4, 22, 17], ce_m173), (2, 2, [(4, 11, 1)], [0, 6, 4, 2, 9, 11, 12], [0, 15, 0, 17, 6, 18, 10, 2, 12, 8, 21], ce_m225), (3, 2, [(4, 7, 1)], [0, 7, 4, 11, 8, 12, 2], [0, 10, 0, 0, 21, 13, 3, 0, 9, 4, 22, 17], ce_m173), (1, 2, [], [0, 7, 4, 11, 8, 12, 2], [0, 0, 0, 0, 21, 13, 3, 10, 9, 4, 22, 17], ce_m173)]) (by decide +kernel) ce_p173 (ce_pc ce_p173 (ce_pc ce_p225 (ce_pc ce_p173 (ce_pc ce_p173 ce_pn))))
def ce_m393 : Nat → Nat → Int := ce_F 7 12 0x21104020228020a20004104020200820a200201200240000048208000001049
theorem ce_p393 : rk_M 2 ce_m393 := ce_st (b1 := 2) (T := ce_m233) (rem := [(1, 1, 1), (1, 2, 2)]) (rows := [0, 2, 4, 6, 8, 10, 12]) (cols := [17, 0, 0, 4, 15, 2, 6, 8, 10, 18, 20, 12]) (L := [(1, 2, [(5, 5, 4), (5, 6, 0)], [0, 12, 2, 8, 10, 4, 6], [19, 0, 4, 6, 17, 0, 0, 12, 14, 9, 3, 10], ce_m229), (2, 2, [(5, 7, 4), (5, 8, 0)], [0, 10, 4, 6, 12, 2, 8], [17, 0, 0, 6, 11, 14, 20, 0, 0, 8, 5, 12], ce_m229), (0, 2, [], [0, 2, 4, 6, 8, 10, 12], [0, 0, 0, 4, 15, 2, 6, 8, 10, 16, 18, 12], ce_m302), (4, 2, [], [0, 10, 4, 6, 12, 2, 8], [0, 0, 0, 6, 0, 14, 20, 10, 16, 8, 5, 12], ce_m229)]) (by decide +kernel) ce_p233 (ce_pc ce_p229 (ce_pc ce_p229 (ce_pc ce_p302 (ce_pc ce_p229 ce_pn))))
def ce_m394 : Nat → Nat → Int := ce_F 7 12 0x40208a040048048201210411000012480040081200408000041201000008049
theorem ce_p394 : rk_M 2 ce_m394 := ce_st (b1 := 2) (T := ce_m185) (rem := [(1, 1, 2)]) (rows := [0, 4, 3, 6, 8, 10, 12]) (cols := [14, 0, 18, 2, 8, 22, 10, 5, 7, 16, 12, 20]) (L := [(1, 2, [(4, 3, 0), (5, 8, 2)], [0, 3, 8, 6, 13, 11, 4], [7, 0, 10, 0, 5, 14, 3, 13, 0, 21, 19, 17], ce_m223), (0, 2, [(5, 5, 4), (5, 6, 2)], [0, 7, 4, 12, 10, 3, 8], [0, 0, 6, 5, 15, 0, 0, 18, 16, 9, 3, 13], ce_m180), (2, 2, [(4, 9, 5)], [0, 7, 4, 12, 10, 3, 8], [0, 0, 0, 5, 15, 9, 7, 18, 16, 0, 3, 13], ce_m180), (5, 2, [], [0, 7, 4, 12, 10, 3, 8], [0, 0, 0, 5, 15, 0, 7, 18, 16, 9, 3, 13], ce_m180)]) (by decide +kernel) ce_p185 (ce_pc ce_p223 (ce_pc ce_p180 (ce_pc ce_p180 (ce_pc ce_p180 ce_pn))))
def ce_m395 : Nat → Nat → Int := ce_F 7 12 0x49024800024840120001100824020a001008041000241000049200000200049
theorem ce_p395 : rk_M 2 ce_m395 := ce_st (b1 := 2) (T := ce_m240) (rem := [(1, 0, 2), (1, 1, 3)]) (rows := [0, 6, 2, 5, 8, 10, 12]) (cols := [0, 0, 8, 4, 7, 10, 14, 21, 2, 13, 16, 19]) (L := [(0, 2, [(1, 2, 4), (5, 10, 7)], [0, 11, 7, 4, 3, 12, 9], [0, 10, 0, 9, 18, 7, 13, 20, 5, 2, 0, 14], ce_m224), (1, 2, [(4, 8, 2), (5, 11, 7)], [0, 11, 7, 4, 3, 12, 9], [0, 0, 5, 9, 18, 7, 13, 15, 0, 2, 21], ce_m224), (2, 2, [], [0, 6, 2, 5, 8, 10, 12], [0, 0, 0, 4, 7, 8, 14, 11, 2, 13, 16, 19], ce_m300), (7, 2, [], [0, 11, 7, 4, 3, 12, 9], [0, 0, 0, 9, 18, 7, 13, 0, 5, 2, 21, 14], ce_m224)]) (by decide +kernel) ce_p240 (ce_pc ce_p224 (ce_pc ce_p224 (ce_pc ce_p300 (ce_pc ce_p224 ce_pn))))
def ce_m396 : Nat → Nat → Int := ce_F 7 12 0x441042200208290040048010048002401408001200241000048201000001049
theorem ce_p396 : rk_M 2 ce_m396 := ce_st (b1 := 2) (T := ce_m155) (rem := []) (rows := [0, 3, 5, 6, 8, 12, 11]) (cols := [3, 10, 17, 5, 18, 7, 9, 15, 13, 22, 20, 24]) (L := [(0, 2, [(3, 3, 2), (5, 4, 3), (5, 5, 2)], [0, 3, 11, 0, 8, 4, 7], [0, 8, 2, 7, 0, 0, 5, 16, 15, 12, 19, 10], ce_m67), (1, 2, [(3, 3, 2), (4, 7, 2), (5, 10, 4)], [0, 3, 11, 0, 8, 4, 7], [0, 0, 16, 7, 18, 3, 5, 0, 15, 12, 0, 10], ce_m67), (4, 2, [(3, 3, 2)], [0, 3, 7, 0, 4, 8, 11], [0, 0, 8, 7, 0, 3, 5, 14, 13, 10, 17, 18], ce_m98), (2, 2, [(3, 3, 2)], [0, 3, 11, 0, 8, 4, 7], [0, 0, 0, 7, 0, 3, 5, 16, 15, 12, 19, 10], ce_m67)]) (by decide +kernel) ce_p155 (ce_pc ce_p67 (ce_pc ce_p67 (ce_pc ce_p98 (ce_pc ce_p67 ce_pn))))
def ce_m397 : Nat → Nat → Int := ce_F 7 12 0x20104900804804820800a402200082410040410280001000041048000008209
theorem ce_p397 : rk_M 2 ce_m397 := ce_st (b1 := 2) (T := ce_m182) (rem := [(1, 0, 2)]) (rows := [0, 2, 5, 6, 8, 12, 10]) (cols := [0, 14, 4, 20, 8, 22, 2, 7, 16, 10, 18, 12]) (L := [(0, 2, [(4, 6, 1), (4, 9, 3)], [0, 4, 12, 2, 10, 7, 9], [0, 14, 4, 21, 10, 13, 0, 17, 9, 0, 3, 23], ce_m173), (3, 2, [(4, 4, 1), (4, 8, 5)], [0, 7, 2, 9, 13, 11, 5], [0, 15, 11, 0, 0, 17, 5, 6, 0, 9, 20, 3], ce_m155), (1, 2, [(5, 5, 2)], [0, 7, 2, 9, 13, 11, 5], [0, 0, 11, 0, 15, 0, 5, 6, 17, 9, 20, 3], ce_m155), (5, 2, [], [0, 7, 2, 9, 13, 11, 5], [0, 0, 11, 0, 15, 0, 5, 6, 17, 9, 20, 3], ce_m155)]) (by decide +kernel) ce_p182 (ce_pc ce_p173 (ce_pc ce_p155 (ce_pc ce_p155 (ce_pc ce_p155 ce_pn))))
def ce_m398 : Nat → Nat → Int := ce_F 7 12 0x490280008249040001200448200040041041010009008000040241001200009
theorem ce_p398 : rk_M 2 ce_m398 := ce_st (b1 := 2) (T := ce_m195) (rem := [(1, 8, 5)]) (rows := [0, 3, 5, 7, 9, 11, 12]) (cols := [11, 17, 3, 5, 7, 9, 13, 22, 0, 14, 19, 21]) (L := [(8, 2, [(3, 6, 5), (4, 2, 0), (5, 9, 1), (5, 11, 7)], [0, 2, 8, 4, 6, 10], [2, 22, 0, 4, 6, 8, 10, 21, 0, 0, 18], ce_m50), (1, 2, [(3, 6, 5), (5, 7, 5)], [0, 4, 3, 10, 9, 6], [2, 0, 14, 8, 13, 7, 10, 0, 0, 4, 18, 16], ce_m63), (7, 2, [(3, 6, 5), (4, 6, 0)], [0, 2, 8, 4, 6, 10], [10, 0, 2, 4, 6, 8, 0, 0, 0, 23, 18, 20], ce_m50), (0, 2, [(3, 6, 5)], [0, 2, 8, 4, 6, 10], [0, 0, 2, 4, 6, 8, 10, 0, 0, 23, 18, 20], ce_m50)]) (by decide +kernel) ce_p195 (ce_pc ce_p50 (ce_pc ce_p63 (ce_pc ce_p50 (ce_pc ce_p50 ce_pn))))
def ce_m399 : Nat → Nat → Int := ce_F 7 12 0x250091000010411008212000440041001201008208201000048041000001209
theorem ce_p399 : rk_M 2 ce_m399 := ce_st (b1 := 2) (T := ce_m194) (rem := [(1, 1, 5)]) (rows := [0, 3, 7, 11, 9, 4, 12]) (cols := [9, 0, 5, 19, 12, 3, 15, 7, 16, 11, 22, 20]) (L := [(1, 2, [(3, 5, 2), (1, 7, 2), (4, 10, 4)], [0, 11, 3, 9, 4, 0, 6], [9, 0, 16, 3, 18, 7, 15, 0, 13, 5, 0, 10], ce_m67), (0, 2, [(3, 5, 2), (5, 3, 2), (5, 5, 4), (1, 7, 2)], [0, 5, 3, 6, 9, 0, 10], [0, 0, 7, 0, 12, 0, 19, 0, 8, 15, 20, 23], ce_m50), (3, 2, [(3, 5, 2), (1, 7, 2), (5, 9, 4)], [0, 5, 3, 6, 9, 0, 10], [0, 0, 7, 0, 14, 13, 19, 0, 8, 0, 20, 23], ce_m50), (4, 2, [(3, 5, 2), (1, 7, 2)], [0, 5, 3, 6, 9, 0, 10], [0, 0, 7, 0, 0, 13, 19, 0, 8, 15, 20, 23], ce_m50)]) (by decide +kernel) ce_p194 (ce_pc ce_p67 (ce_pc ce_p50 (ce_pc ce_p50 (ce_pc ce_p50 ce_pn))))
def ce_m400 : Nat → Nat → Int := ce_F 7 12 0x211091000211201008240081200040009088000248008008000241001001009
theorem ce_p400 : rk_M 2 ce_m400 := ce_st (b1 := 2) (T := ce_m199) (rem := [(1, 0, 1)]) (rows := [0, 3, 4, 6, 9, 12, 10]) (cols := [0, 10, 3, 5, 18, 8, 12, 14, 22, 7, 16, 21]) (L := [(0, 2, [(5, 9, 8)], [0, 12, 3, 9, 10, 5, 6], [0, 9, 12, 14, 21, 5, 7, 3, 19, 0, 11, 17], ce_m241), (8, 2, [(4, 5, 1), (4, 10, 4)], [0, 6, 3, 11, 8, 5, 12], [0, 9, 18, 10, 20, 0, 7, 3, 0, 14, 0, 17], ce_m155), (1, 2, [(5, 6, 4)], [0, 6, 3, 11, 8, 5, 12], [0, 0, 18, 10, 6, 9, 0, 3, 0, 14, 20, 17], ce_m155), (4, 2, [], [0, 6, 3, 11, 8, 5, 12], [0, 0, 18, 10, 0, 9, 7, 3, 0, 14, 20, 17], ce_m155)]) (by decide +kernel) ce_p199 (ce_pc ce_p241 (ce_pc ce_p155 (ce_pc ce_p155 (ce_pc ce_p155 ce_pn))))
def ce_m401 : Nat → Nat → Int := ce_F 7 12 0x48a000200408208200041202040480080208240040041000009209000000249
theorem ce_p401 : rk_M 2 ce_m401 := ce_st (b1 := 2) (T := ce_m157) (rem := []) (rows := [0, 2, 9, 10, 5, 6, 12]) (cols := [8, 12, 7, 20, 4, 2, 19, 11, 15, 16, 23, 25]) (L := [(0, 2, [(3, 3, 2), (1, 1, 2), (5, 4, 2), (1, 6, 2), (5, 11, 3)], [0, 6, 2, 0, 4, 9, 11], [0, 0, 10, 9, 0, 14, 0, 12, 18, 23, 6], ce_m51), (1, 2, [(3, 3, 2), (1, 6, 2), (4, 9, 3)], [0, 7, 2, 0, 4, 11, 9], [0, 0, 4, 21, 11, 15, 0, 16, 12, 0, 2, 8], ce_m67), (2, 2, [(3, 3, 2), (1, 6, 2)], [0, 5, 2, 0, 6, 11, 9], [0, 0, 0, 3, 9, 11, 0, 16, 14, 19, 4, 6], ce_m93), (3, 2, [(3, 3, 2), (1, 6, 2)], [0, 6, 2, 0, 4, 9, 11], [0, 0, 0, 0, 11, 14, 0, 12, 18, 23, 6, 8], ce_m51)]) (by decide +kernel) ce_p157 (ce_pc ce_p51 (ce_pc ce_p67 (ce_pc ce_p93 (ce_pc ce_p51 ce_pn))))
def ce_m402 : Nat → Nat → Int := ce_F 7 12 0x451002240011480048200088048000202210040008048008041001001000241
theorem ce_p402 : rk_M 2 ce_m402 := ce_st (b1 := 2) (T := ce_m196) (rem := [(1, 0, 1)]) (rows := [0, 3, 7, 4, 8, 10, 12]) (cols := [0, 9, 12, 16, 3, 11, 5, 14, 22, 7, 18, 21]) (L := [(0, 2, [(5, 4, 3), (5, 9, 8)], [0, 4, 6, 3, 12, 10, 9], [0, 4, 7, 3, 0, 12, 16, 9, 15, 0, 11, 20], ce_m230), (3, 2, [(4, 2, 1), (5, 8, 7)], [0, 12, 10, 3, 6, 4, 9], [0, 4, 0, 0, 6, 18, 15, 3, 0, 17, 21, 10], ce_m155), (8, 2, [(4, 5, 2)], [0, 12, 10, 3, 6, 4, 9], [0, 4, 18, 0, 6, 0, 15, 3, 0, 17, 21, 10], ce_m155), (2, 2, [], [0, 12, 10, 3, 6, 4, 9], [0, 4, 0, 0, 6, 18, 15, 3, 0, 17, 21, 10], ce_m155)]) (by decide +kernel) ce_p196 (ce_pc ce_p230 (ce_pc ce_p155 (ce_pc ce_p155 (ce_pc ce_p155 ce_pn))))
def ce_m403 : Nat → Nat → Int := ce_F 7 12 0x492008008048090040240402200009201001001241001000008209000001049
theorem ce_p403 : rk_M 2 ce_m403 := ce_st (b1 := 2) (T := ce_m284) (rem := [(1, 2, 5), (4, 7, 4)]) (rows := [0, 5, 3, 11, 6, 8, 12]) (cols := [7, 19, 0, 3, 9, 13, 5, 0, 11, 16, 14, 20]) (L := [(2, 2, [(4, 5, 1)], [0, 3, 9, 7, 5, 12, 11], [5, 7, 0, 3, 14, 0, 21, 10, 13, 19, 17, 9], ce_m246), (1, 2, [(4, 8, 0)], [0, 2, 5, 7, 10, 9, 12], [13, 0, 0, 6, 3, 4, 9, 11, 0, 15, 16, 18], ce_m316), (0, 2, [(5, 4, 3)], [0, 8, 4, 7, 13, 3, 10], [0, 0, 0, 22, 0, 6, 4, 18, 14, 3, 9, 25], ce_m156), (4, 2, [], [0, 8, 4, 7, 13, 3, 10], [0, 0, 0, 22, 0, 6, 4, 18, 14, 3, 9, 25], ce_m156)]) (by decide +kernel) ce_p284 (ce_pc ce_p246 (ce_pc ce_p316 (ce_pc ce_p156 (ce_pc ce_p156 ce_pn))))
def ce_m404 : Nat → Nat → Int := ce_F 7 12 0x24141100024105004009000a008048001201000242040000008209001000049
theorem ce_p404 : rk_M 2 ce_m404 := ce_st (b1 := 2) (T := ce_m157) (rem := [(4, 3, 0), (4, 6, 2), (4, 11, 8)]) (rows := [0, 2, 4, 9, 10, 7, 13]) (cols := [8, 12, 10, 0, 23, 20, 0, 14, 17, 19, 25]) (L := [(0, 2, [(5, 9, 1)], [0, 4, 3, 8, 6, 11, 13], [0, 14, 3, 12, 7, 4, 9, 10, 17, 0, 19, 21], ce_m232), (1, 2, [(5, 8, 5)], [0, 2, 9, 4, 6, 13, 11], [0, 0, 7, 2, 14, 8, 19, 13, 0, 10, 16, 21], ce_m231), (2, 2, [(5, 8, 7)], [0, 6, 5, 2, 11, 9, 12], [0, 0, 0, 4, 14, 18, 11, 21, 0, 6, 16, 25], ce_m150), (8, 2, [], [0, 6, 5, 2, 11, 9, 12], [0, 0, 0, 4, 14, 18, 11, 21, 0, 6, 16, 25], ce_m150)]) (by decide +kernel) ce_p157 (ce_pc ce_p232 (ce_pc ce_p231 (ce_pc ce_p150 (ce_pc ce_p150 ce_pn))))
def ce_m405 : Nat → Nat → Int := ce_F 7 12 0x482040088241200041092401000048088200002008088000001241000240009
theorem ce_p405 : rk_M 2 ce_m405 := ce_st (b1 := 2) (T := ce_m161) (rem := []) (rows := [0, 2, 5, 6, 8, 10, 13]) (cols := [12, 15, 2, 4, 6, 9, 21, 22, 10, 16, 18, 24]) (L := [(0, 2, [(3, 6, 5), (5, 2, 1), (5, 7, 4), (1, 11, 5)], [0, 6, 11, 4, 9, 2], [0, 7, 0, 10, 18, 16, 5, 0, 8, 12, 2], ce_m67), (1, 2, [(3, 6, 5), (5, 6, 5), (4, 8, 7), (1, 11, 5)], [0, 7, 9, 4, 3, 10], [0, 0, 17, 10, 5, 12, 0, 8, 0, 2, 6], ce_m51), (6, 2, [(3, 6, 5), (4, 10, 7), (1, 11, 5)], [0, 7, 9, 4, 3, 10], [0, 0, 17, 10, 5, 12, 0, 6, 8, 2], ce_m51), (7, 2, [(3, 6, 5), (1, 11, 5)], [0, 7, 9, 4, 3, 10], [0, 0, 17, 10, 5, 12, 0, 0, 8, 2, 6], ce_m51)]) (by decide +kernel) ce_p161 (ce_pc ce_p67 (ce_pc ce_p51 (ce_pc ce_p51 (ce_pc ce_p51 ce_pn))))
def ce_m406 : Nat → Nat → Int := ce_F 7 12 0x492008008208410200012088008041200041009041001000009009000000249
theorem ce_p406 : rk_M 2 ce_m406 := ce_st (b1 := 2) (T := ce_m256) (rem := [(1, 2, 3), (1, 3, 5)]) (rows := [0, 6, 8, 2, 10, 5, 12]) (cols := [4, 14, 0, 0, 8, 6, 20, 2, 10, 13, 16, 19]) (L := [(2, 2, [(4, 4, 0), (5, 7, 3)], [0, 2, 4, 7, 10, 9, 12], [4, 2, 0, 8, 0, 6, 14, 0, 12, 10, 17, 19], ce_m317), (3, 2, [(4, 5, 1)], [0, 2, 4, 8, 6, 13, 10], [4, 8, 0, 0, 2, 0, 10, 18, 14, 16, 12, 21], ce_m231), (0, 2, [(5, 8, 1)], [0, 7, 3, 5, 10, 8, 12], [0, 14, 0, 0, 5, 19, 7, 11, 0, 17, 21, 24], ce_m150), (1, 2, [], [0, 7, 3, 5, 10, 8, 12], [0, 0, 0, 0, 5, 19, 7, 11, 15, 17, 21, 24], ce_m150)]) (by decide +kernel) ce_p256 (ce_pc ce_p317 (ce_pc ce_p231 (ce_pc ce_p150 (ce_pc ce_p150 ce_pn))))
def ce_m407 : Nat → Nat → Int := ce_F 7 12 0x25008004821201004004108800800824100100820820100008a200000000049
theorem ce_p407 : rk_M 2 ce_m407 := ce_st (b1 := 2) (T := ce_m258) (rem := [(4, 7, 0), (4, 10, 1), (4, 11, 2)]) (rows := [0, 2, 6, 11, 8, 5, 13]) (cols := [16, 18, 11, 2, 9, 4, 13, 0, 6, 14]) (L := [(0, 2, [(5, 9, 2)], [0, 2, 6, 11, 8, 5, 13], [0, 21, 15, 2, 9, 4, 13, 16, 6, 0, 18, 11], ce_m258), (1, 2, [(5, 8, 2)], [0, 2, 6, 11, 8, 5, 13], [0, 0, 7, 2, 9, 4, 13, 16, 0, 14, 18, 11], ce_m258), (2, 2, [], [0, 2, 6, 11, 8, 5, 13], [0, 0, 0, 2, 9, 4, 13, 16, 6, 14, 18, 11], ce_m258)]) (by decide +kernel) ce_p258 (ce_pc ce_p258 (ce_pc ce_p258 (ce_pc ce_p258 ce_pn)))
def ce_m408 : Nat → Nat → Int := ce_F 7 12 0x44248800000048a200208040048048008009000041048000008209001200081
theorem ce_p408 : rk_M 2 ce_m408 := ce_st (b1 := 2) (T := ce_m204) (rem := [(1, 8, 6)]) (rows := [0, 2, 4, 6, 8, 10, 12]) (cols := [2, 4, 6, 8, 10, 12, 14, 23, 0, 16, 18, 20]) (L := [(8, 2, [(1, 7, 5)], [0, 4, 6, 8, 10, 2, 12], [12, 4, 14, 2, 6, 8, 10, 0, 0, 16, 18, 20], ce_m261), (0, 2, [(4, 2, 1), (5, 7, 5)], [0, 2, 4, 6, 8, 10, 12], [0, 4, 0, 8, 10, 12, 14, 0, 0, 16, 18, 20], ce_m204), (2, 2, [(4, 7, 6)], [0, 2, 4, 6, 8, 10, 12], [0, 4, 0, 8, 10, 12, 14, 0, 0, 16, 18, 20], ce_m204), (7, 2, [], [0, 2, 4, 6, 8, 10, 12], [0, 4, 0, 8, 10, 12, 14, 0, 0, 16, 18, 20], ce_m204)]) (by decide +kernel) ce_p204 (ce_pc ce_p261 (ce_pc ce_p204 (ce_pc ce_p204 (ce_pc ce_p204 ce_pn))))
def ce_m409 : Nat → Nat → Int := ce_F 7 12 0x489400008081040208200050048040209001001041008000208201008000049
theorem ce_p409 : rk_M 2 ce_m409 := ce_st (b1 := 2) (T := ce_m271) (rem := [(1, 2, 4), (1, 9, 6)]) (rows := [0, 6, 5, 10, 3, 9, 13]) (cols := [14, 7, 0, 13, 11, 4, 3, 18, 17, 0, 20, 9]) (L := [(2, 2, [(4, 5, 0), (4, 8, 1), (5, 11, 9)], [0, 12, 2, 4, 8, 10, 6], [16, 2, 0, 24, 4, 0, 6, 18, 0, 10, 14], ce_m156), (9, 2, [(4, 6, 1), (4, 7, 0)], [0, 12, 2, 4, 8, 10, 6], [18, 6, 0, 24, 4, 16, 0, 0, 2, 0, 14, 11], ce_m156), (0, 2, [], [0, 4, 13, 2, 9, 11, 7], [0, 7, 0, 2, 4, 12, 21, 10, 19, 0, 14, 8], ce_m229), (1, 2, [], [0, 12, 2, 4, 8, 10, 6], [0, 0, 0, 24, 4, 16, 6, 18, 2, 0, 14, 11], ce_m156)]) (by decide +kernel) ce_p271 (ce_pc ce_p156 (ce_pc ce_p156 (ce_pc ce_p229 (ce_pc ce_p156 ce_pn))))
def ce_m410 : Nat → Nat → Int := ce_F 7 12 0x449400008040411400200051008041040048001040208000208041008001009
theorem ce_p410 : rk_M 2 ce_m410 := ce_st (b1 := 2) (T := ce_m266) (rem := [(1, 0, 1), (1, 9, 6)]) (rows := [0, 2, 4, 6, 11, 9, 13]) (cols := [0, 14, 2, 8, 17, 4, 10, 6, 12, 0, 20, 19]) (L := [(0, 2, [(5, 5, 4)], [0, 10, 2, 8, 6, 5, 12], [0, 8, 18, 2, 7, 0, 4, 14, 10, 21, 13, 16], ce_m257), (9, 2, [(4, 6, 1)], [0, 3, 5, 7, 9, 10, 13], [0, 5, 3, 11, 19, 7, 0, 13, 9, 0, 17, 15], ce_m328), (4, 2, [], [0, 5, 6, 10, 2, 8, 13], [0, 17, 9, 13, 0, 3, 4, 11, 14, 0, 18, 6], ce_m318), (1, 2, [], [0, 2, 12, 4, 9, 11, 7], [0, 0, 4, 24, 0, 6, 16, 2, 18, 0, 14, 10], ce_m156)]) (by decide +kernel) ce_p266 (ce_pc ce_p257 (ce_pc ce_p328 (ce_pc ce_p318 (ce_pc ce_p156 ce_pn))))
def ce_m411 : Nat → Nat → Int := ce_F 7 12 0x241440040090210008210042008048008201001011040000200209000040049
theorem ce_p411 : rk_M 2 ce_m411 := ce_st (b1 := 2) (T := ce_m156) (rem := [(4, 3, 0), (4, 8, 2), (4, 11, 6)]) (rows := [0, 5, 12, 3, 6, 10, 9]) (cols := [5, 15, 23, 0, 21, 9, 10, 13, 0, 3, 7]) (L := [(0, 2, [(5, 9, 1)], [0, 9, 3, 10, 4, 7, 12], [0, 6, 11, 18, 5, 2, 12, 9, 15, 0, 20, 16], ce_m263), (2, 2, [(5, 6, 4)], [0, 2, 7, 4, 10, 12, 9], [0, 6, 0, 4, 11, 8, 0, 12, 3, 16, 18, 21], ce_m255), (6, 2, [(4, 7, 1)], [0, 4, 9, 2, 13, 11, 6], [0, 14, 0, 4, 23, 6, 0, 0, 10, 8, 2, 20], ce_m156), (1, 2, [], [0, 4, 9, 2, 13, 11, 6], [0, 0, 0, 4, 23, 6, 0, 14, 10, 8, 2, 20], ce_m156)]) (by decide +kernel) ce_p156 (ce_pc ce_p263 (ce_pc ce_p255 (ce_pc ce_p156 (ce_pc ce_p156 ce_pn))))
def ce_m412 : Nat → Nat → Int := ce_F 7 12 0x240012200412080040088408008240040201001241001000049001000000249
theorem ce_p412 : rk_M 2 ce_m412 := ce_st (b1 := 2) (T := ce_m275) (rem := [(1, 1, 4), (1, 2, 5)]) (rows := [0, 6, 10, 12, 2, 5, 9]) (cols := [18, 0, 0, 21, 16, 4, 6, 9, 10, 2, 13, 14]) (L := [(1, 2, [(5, 9, 2), (4, 10, 3)], [0, 12, 6, 8, 3, 4, 10], [12, 0, 4, 8, 20, 17, 15, 2, 7, 0, 0, 11], ce_m173), (2, 2, [(4, 6, 0), (4, 11, 3)], [0, 4, 6, 2, 9, 11, 12], [4, 0, 0, 8, 14, 16, 0, 10, 18, 21, 6], ce_m155), (3, 2, [(4, 4, 0)], [0, 4, 6, 2, 9, 11, 12], [14, 0, 0, 0, 0, 16, 4, 10, 18, 21, 6, 8], ce_m155), (0, 2, [], [0, 4, 6, 2, 9, 11, 12], [0, 0, 0, 0, 14, 16, 4, 10, 18, 21, 6, 8], ce_m155)]) (by decide +kernel) ce_p275 (ce_pc ce_p173 (ce_pc ce_p155 (ce_pc ce_p155 (ce_pc ce_p155 ce_pn))))
end
section
/-! the certificate, 3: written by wip/whole/emit.py -/
def ce_m413 : Nat → Nat → Int := ce_F 7 12 0x291200008040411400040051008200240048000240208008008041001001009
theorem ce_p413 : rk_M 2 ce_m413 := ce_st (b1 := 2) (T := ce_m278) (rem := [(1, 0, 1), (1, 8, 6)]) (rows := [0, 2, 4, 6, 13, 11, 9]) (cols := [0, 14, 2, 8, 19, 6, 10, 12, 0, 4, 20, 16]) (L := [(0, 2, [(5, 5, 4), (5, 9, 8)], [0, 10, 4, 12, 7, 3, 8], [0, 20, 14, 2, 7, 0, 18, 8, 10, 0, 5, 12], ce_m241), (8, 2, [(4, 6, 1), (4, 10, 4)], [0, 8, 4, 6, 13, 3, 10], [0, 14, 10, 2, 9, 6, 0, 4, 0, 20, 0, 18], ce_m155), (4, 2, [(4, 7, 1)], [0, 8, 4, 6, 13, 3, 10], [0, 4, 10, 2, 0, 6, 14, 0, 0, 20, 9, 18], ce_m155), (1, 2, [], [0, 8, 4, 6, 13, 3, 10], [0, 0, 10, 2, 0, 6, 14, 4, 0, 20, 9, 18], ce_m155)]) (by decide +kernel) ce_p278 (ce_pc ce_p241 (ce_pc ce_p155 (ce_pc ce_p155 (ce_pc ce_p155 ce_pn))))
def ce_m414 : Nat → Nat → Int := ce_F 7 12 0x241400088051081000050410200208040009001008088000201041000040209
theorem ce_p414 : rk_M 2 ce_m414 := ce_st (b1 := 2) (T := ce_m156) (rem := [(1, 3, 4)]) (rows := [0, 9, 2, 12, 5, 6, 10]) (cols := [23, 8, 7, 0, 10, 4, 21, 12, 2, 18, 15, 24]) (L := [(3, 2, [(4, 9, 6)], [0, 3, 9, 7, 10, 5, 13], [3, 5, 11, 0, 7, 17, 12, 19, 9, 0, 21, 15], ce_m252), (0, 2, [(5, 2, 1), (5, 6, 4)], [0, 6, 12, 2, 11, 9, 4], [0, 18, 0, 0, 10, 24, 0, 15, 16, 6, 12, 4], ce_m156), (6, 2, [(4, 8, 1)], [0, 6, 12, 2, 11, 9, 4], [0, 16, 19, 0, 10, 24, 0, 15, 0, 6, 12, 4], ce_m156), (1, 2, [], [0, 6, 12, 2, 11, 9, 4], [0, 0, 19, 0, 10, 24, 0, 15, 16, 6, 12, 4], ce_m156)]) (by decide +kernel) ce_p156 (ce_pc ce_p252 (ce_pc ce_p156 (ce_pc ce_p156 (ce_pc ce_p156 ce_pn))))
def ce_m415 : Nat → Nat → Int := ce_F 7 12 0x481200048210409000090088008048040201001041040000008209000200049
theorem ce_p415 : rk_M 2 ce_m415 := ce_st (b1 := 2) (T := ce_m156) (rem := [(4, 3, 0), (4, 8, 2), (5, 11, 7)]) (rows := [0, 5, 13, 3, 10, 6, 8]) (cols := [5, 13, 22, 0, 20, 15, 9, 11, 0, 3, 7]) (L := [(0, 2, [(5, 10, 1)], [0, 8, 4, 12, 10, 2, 7], [0, 21, 14, 22, 4, 8, 18, 13, 6, 17, 0, 2], ce_m173), (2, 2, [(5, 7, 4)], [0, 5, 7, 3, 10, 8, 12], [0, 15, 0, 5, 11, 13, 3, 0, 21, 7, 9, 22], ce_m156), (7, 2, [(4, 5, 1)], [0, 4, 8, 2, 11, 7, 13], [0, 14, 0, 4, 11, 0, 6, 0, 22, 2, 8, 21], ce_m156), (1, 2, [], [0, 4, 8, 2, 11, 7, 13], [0, 0, 0, 4, 11, 14, 6, 0, 22, 2, 8, 21], ce_m156)]) (by decide +kernel) ce_p156 (ce_pc ce_p173 (ce_pc ce_p156 (ce_pc ce_p156 (ce_pc ce_p156 ce_pn))))
def ce_m416 : Nat → Nat → Int := ce_F 7 12 0x251080400251200040040089008000240240000008248008001009001000049
theorem ce_p416 : rk_M 2 ce_m416 := ce_st (b1 := 2) (T := ce_m149) (rem := [(1, 0, 1), (4, 11, 8)]) (rows := [0, 2, 7, 11, 8, 4, 12]) (cols := [0, 2, 9, 27, 10, 16, 5, 19, 12, 7, 24]) (L := [(0, 2, [(4, 5, 1), (5, 9, 8)], [0, 5, 2, 8, 6, 10, 13], [0, 4, 8, 10, 7, 0, 13, 14, 16, 0, 18, 20], ce_m280), (8, 2, [(4, 3, 2)], [0, 5, 3, 7, 9, 10, 12], [0, 3, 5, 0, 9, 7, 14, 10, 0, 13, 17, 18], ce_m324), (1, 2, [], [0, 4, 2, 6, 10, 12, 9], [0, 0, 11, 4, 14, 12, 17, 18, 0, 8, 22, 21], ce_m185), (2, 2, [], [0, 6, 5, 13, 10, 2, 8], [0, 0, 0, 25, 14, 18, 5, 21, 0, 3, 22, 10], ce_m149)]) (by decide +kernel) ce_p149 (ce_pc ce_p280 (ce_pc ce_p324 (ce_pc ce_p185 (ce_pc ce_p149 ce_pn))))
def ce_m417 : Nat → Nat → Int := ce_F 7 12 0x489400008050090040042201200200248001008041008000208201001000049
theorem ce_p417 : rk_M 2 ce_m417 := ce_st (b1 := 2) (T := ce_m160) (rem := [(1, 2, 5)]) (rows := [0, 8, 6, 4, 11, 3, 12]) (cols := [10, 22, 0, 16, 14, 4, 2, 18, 24, 6, 9, 20]) (L := [(2, 2, [(4, 5, 0), (4, 9, 1), (5, 10, 8)], [0, 6, 8, 10, 2, 12, 5], [22, 13, 0, 4, 6, 0, 24, 8, 11, 0, 0, 16], ce_m153), (0, 2, [(5, 8, 7)], [0, 6, 3, 12, 5, 10, 9], [0, 13, 0, 7, 5, 20, 17, 15, 0, 9, 11, 22], ce_m173), (1, 2, [(5, 8, 4)], [0, 6, 8, 10, 2, 12, 5], [0, 0, 0, 4, 6, 22, 24, 8, 0, 13, 10, 16], ce_m153), (8, 2, [], [0, 6, 8, 10, 2, 12, 5], [0, 0, 0, 4, 6, 22, 24, 8, 0, 13, 10, 16], ce_m153)]) (by decide +kernel) ce_p160 (ce_pc ce_p153 (ce_pc ce_p173 (ce_pc ce_p153 (ce_pc ce_p153 ce_pn))))
def ce_m418 : Nat → Nat → Int := ce_F 7 12 0x440201040208048200042209000208440010001040241000208208000041041
theorem ce_p418 : rk_M 2 ce_m418 := ce_st (b1 := 2) (T := ce_m280) (rem := [(1, 0, 2), (4, 10, 4)]) (rows := [0, 9, 6, 10, 3, 13, 5]) (cols := [0, 15, 7, 12, 3, 11, 18, 9, 4, 20, 0, 16]) (L := [(0, 2, [(1, 2, 6), (4, 9, 6)], [0, 9, 3, 7, 10, 13, 4], [0, 10, 0, 7, 4, 22, 19, 12, 9, 0, 16, 15], ce_m178), (2, 2, [(5, 8, 4), (4, 11, 6)], [0, 8, 2, 6, 11, 12, 5], [0, 11, 0, 6, 9, 23, 14, 13, 0, 18, 17], ce_m178), (4, 2, [], [0, 8, 2, 6, 11, 12, 5], [0, 11, 0, 6, 0, 23, 2, 13, 8, 18, 17, 14], ce_m178), (6, 2, [], [0, 8, 2, 6, 11, 12, 5], [0, 11, 0, 6, 0, 23, 0, 13, 8, 18, 17, 14], ce_m178)]) (by decide +kernel) ce_p280 (ce_pc ce_p178 (ce_pc ce_p178 (ce_pc ce_p178 (ce_pc ce_p178 ce_pn))))
def ce_m419 : Nat → Nat → Int := ce_F 7 12 0x482401000240090200209080040209200008000240088001008041000001209
theorem ce_p419 : rk_M 2 ce_m419 := ce_st (b1 := 2) (T := ce_m321) (rem := [(1, 0, 1), (1, 3, 5), (1, 4, 6)]) (rows := [0, 2, 7, 12, 10, 5, 9]) (cols := [0, 17, 4, 0, 0, 2, 10, 13, 6, 18, 9, 15]) (L := [(0, 2, [(5, 5, 3)], [0, 2, 11, 12, 8, 5, 7], [0, 17, 8, 5, 3, 0, 10, 20, 12, 22, 7, 15], ce_m173), (3, 2, [(5, 10, 4)], [0, 5, 11, 12, 8, 2, 7], [0, 17, 11, 0, 3, 5, 9, 20, 15, 22, 0, 12], ce_m173), (4, 2, [(4, 7, 1)], [0, 5, 11, 12, 8, 2, 7], [0, 20, 11, 0, 0, 5, 9, 0, 15, 22, 2, 12], ce_m173), (1, 2, [], [0, 5, 11, 12, 8, 2, 7], [0, 0, 11, 0, 0, 5, 9, 20, 15, 22, 2, 12], ce_m173)]) (by decide +kernel) ce_p321 (ce_pc ce_p173 (ce_pc ce_p173 (ce_pc ce_p173 (ce_pc ce_p173 ce_pn))))
def ce_m420 : Nat → Nat → Int := ce_F 7 12 0x28a000440050410008200401048041040009008240400001009200000000049
theorem ce_p420 : rk_M 2 ce_m420 := ce_st (b1 := 2) (T := ce_m203) (rem := [(1, 0, 3), (4, 11, 2)]) (rows := [0, 10, 3, 5, 6, 8, 13]) (cols := [0, 7, 18, 14, 8, 21, 5, 3, 17, 11, 13]) (L := [(0, 2, [], [0, 9, 5, 3, 12, 7, 10], [0, 21, 8, 12, 23, 10, 5, 19, 7, 15, 3, 24], ce_m156), (2, 2, [(4, 10, 1)], [0, 7, 5, 3, 12, 9, 10], [0, 7, 0, 14, 21, 11, 5, 17, 3, 13, 0, 24], ce_m156), (1, 2, [], [0, 7, 5, 3, 12, 9, 10], [0, 0, 0, 14, 21, 11, 5, 17, 3, 13, 7, 24], ce_m156)]) (by decide +kernel) ce_p203 (ce_pc ce_p156 (ce_pc ce_p156 (ce_pc ce_p156 ce_pn)))
def ce_m421 : Nat → Nat → Int := ce_F 7 12 0x410202200282080040040411008009048001000248001000001049000000249
theorem ce_p421 : rk_M 2 ce_m421 := ce_st (b1 := 2) (T := ce_m212) (rem := [(1, 3, 6)]) (rows := [0, 4, 7, 10, 8, 12, 3]) (cols := [6, 8, 14, 0, 2, 17, 19, 5, 22, 10, 20, 12]) (L := [(3, 2, [(4, 4, 1)], [0, 3, 5, 9, 7, 11, 12], [3, 5, 7, 0, 0, 9, 15, 11, 17, 19, 13, 21], ce_m276), (1, 2, [(0, 1, 4), (4, 5, 0), (5, 10, 2)], [0, 0, 10, 2, 9, 5, 7], [8, 0, 13, 0, 14, 0, 6, 17, 2, 4, 0, 11], ce_m51), (2, 2, [(0, 1, 4), (4, 6, 0)], [0, 0, 10, 2, 9, 5, 7], [6, 0, 0, 0, 14, 8, 0, 17, 2, 4, 12, 11], ce_m51), (0, 2, [(0, 1, 4)], [0, 0, 10, 2, 9, 5, 7], [0, 0, 0, 0, 14, 8, 6, 17, 2, 4, 12, 11], ce_m51)]) (by decide +kernel) ce_p212 (ce_pc ce_p276 (ce_pc ce_p51 (ce_pc ce_p51 (ce_pc ce_p51 ce_pn))))
def ce_m422 : Nat → Nat → Int := ce_F 7 12 0x45120000028240100044009020020a000088000240088001008041000001209
theorem ce_p422 : rk_M 2 ce_m422 := ce_st (b1 := 2) (T := ce_m325) (rem := [(1, 0, 1), (1, 3, 4), (1, 4, 5)]) (rows := [0, 3, 6, 10, 4, 8, 13]) (cols := [0, 16, 5, 0, 0, 3, 9, 12, 7, 18, 10, 15]) (L := [(0, 2, [(5, 2, 1), (5, 5, 3)], [0, 6, 3, 9, 4, 10, 13], [0, 5, 0, 8, 15, 0, 3, 7, 12, 17, 18, 11], ce_m322), (3, 2, [], [0, 3, 4, 6, 12, 10, 9], [0, 10, 3, 0, 20, 7, 12, 8, 5, 14, 19, 16], ce_m253), (4, 2, [], [0, 3, 10, 12, 4, 6, 9], [0, 19, 7, 0, 0, 3, 9, 13, 5, 20, 10, 15], ce_m246), (1, 2, [], [0, 2, 11, 13, 5, 7, 8], [0, 0, 6, 0, 0, 2, 8, 12, 4, 21, 11, 14], ce_m246)]) (by decide +kernel) ce_p325 (ce_pc ce_p322 (ce_pc ce_p253 (ce_pc ce_p246 (ce_pc ce_p246 ce_pn))))
def ce_m423 : Nat → Nat → Int := ce_F 7 12 0x92240400210210400201081040000009208040000288009000041000240009
theorem ce_p423 : rk_M 2 ce_m423 := ce_st (b1 := 2) (T := ce_m160) (rem := [(1, 0, 1)]) (rows := [0, 3, 4, 8, 7, 10, 12]) (cols := [0, 10, 3, 18, 13, 16, 22, 24, 7, 9, 20, 15]) (L := [(0, 2, [(5, 8, 6), (5, 9, 7)], [0, 12, 3, 11, 8, 6, 4], [0, 9, 6, 5, 20, 19, 16, 14, 0, 0, 3, 10], ce_m155), (1, 2, [(5, 7, 3)], [0, 10, 12, 6, 2, 4, 9], [0, 0, 16, 15, 2, 7, 13, 0, 8, 11, 22, 4], ce_m173), (6, 2, [(4, 11, 7)], [0, 12, 3, 11, 8, 6, 4], [0, 0, 6, 5, 20, 19, 0, 10, 17, 15, 3], ce_m155), (7, 2, [], [0, 12, 3, 11, 8, 6, 4], [0, 0, 6, 5, 20, 19, 0, 0, 17, 15, 3, 10], ce_m155)]) (by decide +kernel) ce_p160 (ce_pc ce_p155 (ce_pc ce_p173 (ce_pc ce_p155 (ce_pc ce_p155 ce_pn))))
def ce_m424 : Nat → Nat → Int := ce_F 7 12 0x480002448209201001050440200001208041000450008000001201000000049
theorem ce_p424 : rk_M 2 ce_m424 := ce_st (b1 := 2) (T := ce_m162) (rem := []) (rows := [0, 2, 5, 6, 8, 10, 13]) (cols := [2, 15, 20, 4, 6, 8, 11, 12, 16, 18, 22, 24]) (L := [(1, 2, [(4, 5, 2)], [0, 2, 5, 6, 10, 12, 9], [2, 0, 8, 4, 6, 0, 13, 10, 14, 20, 16, 18], ce_m268), (2, 2, [(4, 4, 0)], [0, 2, 5, 6, 8, 10, 13], [6, 0, 0, 4, 0, 8, 11, 12, 16, 18, 22, 24], ce_m162), (0, 2, [], [0, 2, 5, 6, 8, 10, 13], [0, 0, 0, 4, 6, 8, 11, 12, 16, 18, 22, 24], ce_m162)]) (by decide +kernel) ce_p162 (ce_pc ce_p268 (ce_pc ce_p162 (ce_pc ce_p162 ce_pn)))
def ce_m425 : Nat → Nat → Int := ce_F 7 12 0x9140220020a240000200208081000052200040200081008001048001000209
theorem ce_p425 : rk_M 2 ce_m425 := ce_st (b1 := 2) (T := ce_m160) (rem := [(1, 1, 1)]) (rows := [0, 3, 4, 6, 8, 11, 12]) (cols := [10, 0, 5, 22, 7, 13, 14, 18, 24, 9, 20, 16]) (L := [(1, 2, [(5, 2, 0), (5, 4, 3), (5, 9, 8)], [0, 12, 4, 9, 6, 10, 3], [14, 0, 0, 7, 0, 10, 21, 4, 9, 0, 2, 18], ce_m155), (0, 2, [(5, 8, 7)], [0, 10, 12, 3, 6, 5, 9], [0, 0, 21, 13, 8, 2, 5, 15, 0, 11, 22, 7], ce_m173), (3, 2, [(5, 8, 6)], [0, 12, 4, 9, 6, 10, 3], [0, 0, 15, 0, 6, 10, 21, 4, 0, 8, 2, 18], ce_m155), (8, 2, [], [0, 12, 4, 9, 6, 10, 3], [0, 0, 15, 0, 6, 10, 21, 4, 0, 8, 2, 18], ce_m155)]) (by decide +kernel) ce_p160 (ce_pc ce_p155 (ce_pc ce_p173 (ce_pc ce_p155 (ce_pc ce_p155 ce_pn))))
def ce_m426 : Nat → Nat → Int := ce_F 7 12 0x45045000040244220004045000000800a200001200088200001041000040209
theorem ce_p426 : rk_M 2 ce_m426 := ce_st (b1 := 2) (T := ce_m281) (rem := [(1, 0, 1), (1, 1, 2)]) (rows := [0, 3, 4, 6, 9, 10, 13]) (cols := [0, 0, 3, 14, 5, 12, 21, 6, 8, 16, 19, 11]) (L := [(0, 2, [(5, 2, 1), (5, 4, 3)], [0, 6, 3, 5, 8, 11, 12], [0, 3, 0, 5, 0, 9, 15, 7, 11, 13, 18, 16], ce_m323), (1, 2, [(5, 7, 6)], [0, 9, 13, 2, 5, 6, 11], [0, 0, 21, 6, 5, 2, 11, 0, 19, 12, 15, 16], ce_m185), (3, 2, [(5, 6, 5)], [0, 12, 7, 3, 4, 9, 10], [0, 0, 18, 0, 6, 5, 0, 13, 11, 9, 16, 23], ce_m178), (6, 2, [], [0, 12, 7, 3, 4, 9, 10], [0, 0, 18, 0, 6, 5, 0, 13, 11, 9, 16, 23], ce_m178)]) (by decide +kernel) ce_p281 (ce_pc ce_p323 (ce_pc ce_p185 (ce_pc ce_p178 (ce_pc ce_p178 ce_pn))))
def ce_m427 : Nat → Nat → Int := ce_F 7 12 0x290002040281000240000251200009001200040201008000040241000008049
theorem ce_p427 : rk_M 2 ce_m427 := ce_st (b1 := 2) (T := ce_m327) (rem := [(1, 0, 1), (1, 1, 2), (1, 5, 4)]) (rows := [0, 2, 5, 8, 6, 10, 12]) (cols := [0, 0, 12, 8, 11, 0, 2, 7, 16, 19, 15, 4]) (L := [(0, 2, [(5, 6, 5), (4, 11, 2)], [0, 3, 6, 11, 5, 9, 12], [0, 4, 13, 7, 19, 2, 0, 9, 11, 15, 16], ce_m329), (1, 2, [(5, 7, 5)], [0, 4, 6, 2, 8, 10, 13], [0, 0, 6, 2, 4, 11, 8, 0, 14, 16, 19, 20], ce_m244), (5, 2, [], [0, 4, 6, 2, 8, 10, 13], [0, 0, 12, 2, 4, 0, 8, 10, 14, 16, 19, 20], ce_m244), (2, 2, [], [0, 4, 6, 2, 8, 10, 13], [0, 0, 0, 2, 4, 0, 8, 10, 14, 16, 19, 20], ce_m244)]) (by decide +kernel) ce_p327 (ce_pc ce_p329 (ce_pc ce_p244 (ce_pc ce_p244 (ce_pc ce_p244 ce_pn))))
def ce_m428 : Nat → Nat → Int := ce_F 7 12 0x248080008410402200482010001011002200080210001000049040000000249
theorem ce_p428 : rk_M 2 ce_m428 := ce_st (b1 := 2) (T := ce_m292) (rem := [(1, 1, 6), (1, 2, 1)]) (rows := [0, 3, 6, 8, 10, 12, 4]) (cols := [12, 0, 0, 14, 7, 3, 5, 16, 18, 8, 10, 20]) (L := [(1, 2, [(4, 6, 2), (5, 9, 3), (5, 10, 0)], [0, 8, 12, 3, 4, 11, 6], [18, 0, 11, 3, 6, 17, 0, 24, 5, 0, 0, 15], ce_m156), (2, 2, [(5, 4, 3), (5, 5, 0)], [0, 8, 12, 3, 4, 11, 6], [16, 0, 0, 7, 0, 0, 11, 24, 5, 2, 19, 15], ce_m156), (0, 2, [], [0, 4, 6, 9, 10, 13, 3], [0, 0, 0, 5, 8, 12, 6, 14, 17, 11, 3, 19], ce_m252), (3, 2, [], [0, 8, 12, 3, 4, 11, 6], [0, 0, 0, 0, 6, 17, 11, 24, 5, 2, 19, 15], ce_m156)]) (by decide +kernel) ce_p292 (ce_pc ce_p156 (ce_pc ce_p156 (ce_pc ce_p252 (ce_pc ce_p156 ce_pn))))
def ce_m429 : Nat → Nat → Int := ce_F 7 12 0x441202200000202281208009008048040208001288000000001048000000209
theorem ce_p429 : rk_M 2 ce_m429 := ce_st (b1 := 2) (T := ce_m210) (rem := [(1, 0, 5)]) (rows := [0, 3, 6, 11, 9, 4, 12]) (cols := [0, 7, 3, 14, 5, 10, 13, 8, 16, 19, 23, 21]) (L := [(0, 2, [(4, 10, 3)], [0, 4, 11, 6, 12, 3, 9], [0, 4, 2, 8, 6, 23, 10, 13, 19, 16, 0, 20], ce_m205), (1, 2, [(5, 4, 3)], [0, 5, 10, 7, 13, 2, 8], [0, 0, 3, 6, 0, 22, 11, 12, 18, 17, 9, 21], ce_m205), (3, 2, [], [0, 5, 10, 7, 13, 2, 8], [0, 0, 3, 0, 7, 22, 11, 12, 18, 17, 9, 21], ce_m205)]) (by decide +kernel) ce_p210 (ce_pc ce_p205 (ce_pc ce_p205 (ce_pc ce_p205 ce_pn)))
def ce_m430 : Nat → Nat → Int := ce_F 7 12 0x49001100048104020020a400040040200408008040048001008201000001049
theorem ce_p430 : rk_M 2 ce_m430 := ce_st (b1 := 2) (T := ce_m156) (rem := [(1, 0, 1), (1, 4, 6)]) (rows := [0, 3, 13, 8, 6, 11, 4]) (cols := [0, 22, 20, 7, 0, 5, 25, 11, 3, 19, 13, 15]) (L := [(0, 2, [(5, 5, 4)], [0, 2, 7, 12, 11, 9, 5], [0, 13, 3, 20, 9, 0, 7, 4, 16, 22, 10, 14], ce_m187), (4, 2, [(4, 9, 2)], [0, 12, 2, 6, 8, 4, 11], [0, 2, 6, 18, 0, 24, 4, 10, 16, 0, 15, 13], ce_m156), (1, 2, [(5, 7, 2)], [0, 7, 2, 13, 10, 4, 9], [0, 0, 24, 18, 0, 11, 4, 0, 14, 6, 17, 13], ce_m156), (2, 2, [], [0, 7, 2, 13, 10, 4, 9], [0, 0, 0, 18, 0, 11, 4, 25, 14, 6, 17, 13], ce_m156)]) (by decide +kernel) ce_p156 (ce_pc ce_p187 (ce_pc ce_p156 (ce_pc ce_p156 (ce_pc ce_p156 ce_pn))))
def ce_m431 : Nat → Nat → Int := ce_F 7 12 0x210450000081009200240010008009001080000208240000041201000001209
theorem ce_p431 : rk_M 2 ce_m431 := ce_st (b1 := 2) (T := ce_m293) (rem := [(1, 0, 1), (1, 1, 4)]) (rows := [0, 2, 6, 8, 5, 10, 13]) (cols := [0, 0, 14, 2, 4, 6, 8, 16, 18, 20, 11, 13]) (L := [(0, 2, [(4, 8, 4)], [0, 4, 3, 12, 10, 9, 6], [0, 15, 13, 5, 25, 9, 6, 3, 0, 21, 22, 18], ce_m151), (1, 2, [], [0, 5, 8, 3, 12, 11, 6], [0, 0, 6, 11, 3, 19, 9, 17, 13, 5, 24, 20], ce_m161), (3, 2, [(0, 1, 6), (5, 4, 2), (1, 6, 6)], [0, 0, 11, 9, 2, 7, 4], [0, 0, 22, 0, 0, 11, 0, 19, 9, 7, 4, 2], ce_m50), (4, 2, [(0, 1, 6), (1, 6, 6)], [0, 0, 11, 9, 2, 7, 4], [0, 0, 22, 0, 0, 11, 0, 19, 9, 7, 4, 2], ce_m50)]) (by decide +kernel) ce_p293 (ce_pc ce_p151 (ce_pc ce_p161 (ce_pc ce_p50 (ce_pc ce_p50 ce_pn))))
def ce_m432 : Nat → Nat → Int := ce_F 7 12 0x88088008401400009000450001208001200041001200000209040000041041
theorem ce_p432 : rk_M 2 ce_m432 := ce_st (b1 := 2) (T := ce_m218) (rem := [(1, 2, 1)]) (rows := [0, 3, 7, 5, 8, 10, 13]) (cols := [18, 22, 0, 9, 5, 7, 20, 3, 17, 13, 15, 11]) (L := [(2, 1, [(3, 4, 1), (4, 4, 3), (5, 6, 5), (5, 7, 0)], [0, 5, 8, 11, 0, 2, 6], [6, 4, 0, 20, 0, 15, 0, 0, 2, 16, 19, 9], ce_m49), (0, 2, [(3, 4, 1), (5, 6, 1)], [0, 5, 3, 7, 0, 10, 8], [0, 20, 0, 5, 3, 9, 0, 15, 13, 17, 7, 19], ce_m63), (6, 2, [(3, 4, 1)], [0, 4, 2, 6, 0, 8, 10], [0, 20, 0, 4, 2, 14, 0, 8, 6, 18, 12, 16], ce_m63), (4, 1, [(3, 4, 1)], [0, 5, 8, 11, 0, 2, 6], [0, 4, 0, 20, 0, 15, 0, 7, 2, 16, 19, 9], ce_m49)]) (by decide +kernel) ce_p218 (ce_pc ce_p49 (ce_pc ce_p63 (ce_pc ce_p63 (ce_pc ce_p49 ce_pn))))
def ce_m433 : Nat → Nat → Int := ce_F 7 12 0x411080040248010008048210008011401000000011408000048201000000049
theorem ce_p433 : rk_M 2 ce_m433 := ce_st (b1 := 2) (T := ce_m287) (rem := [(1, 0, 1), (1, 2, 6)]) (rows := [0, 3, 4, 8, 12, 10, 6]) (cols := [0, 18, 0, 3, 8, 7, 5, 17, 10, 13, 20, 15]) (L := [(0, 2, [(5, 5, 1), (5, 6, 2)], [0, 9, 6, 2, 11, 13, 4], [0, 18, 10, 13, 4, 0, 0, 7, 2, 15, 27, 21], ce_m150), (2, 2, [], [0, 6, 9, 5, 12, 10, 3], [0, 16, 0, 12, 11, 18, 4, 20, 3, 14, 26, 6], ce_m150), (1, 2, [], [0, 9, 6, 2, 11, 13, 4], [0, 0, 0, 13, 4, 19, 11, 7, 2, 15, 27, 21], ce_m150)]) (by decide +kernel) ce_p287 (ce_pc ce_p150 (ce_pc ce_p150 (ce_pc ce_p150 ce_pn)))
def ce_m434 : Nat → Nat → Int := ce_F 7 12 0x281040040208200048048009000001401200000090208000048041000000049
theorem ce_p434 : rk_M 2 ce_m434 := ce_st (b1 := 2) (T := ce_m165) (rem := [(1, 0, 1)]) (rows := [0, 4, 7, 10, 2, 12, 9]) (cols := [0, 19, 14, 17, 6, 2, 10, 25, 21, 8, 4, 23]) (L := [(0, 2, [(4, 11, 2)], [0, 5, 6, 13, 3, 9, 10], [0, 10, 21, 18, 9, 3, 13, 23, 24, 5, 7], ce_m165), (1, 2, [(4, 6, 2)], [0, 4, 7, 10, 2, 12, 9], [0, 0, 10, 17, 6, 2, 0, 25, 21, 8, 4, 23], ce_m165), (2, 2, [], [0, 4, 7, 10, 2, 12, 9], [0, 0, 0, 17, 6, 2, 10, 25, 21, 8, 4, 23], ce_m165)]) (by decide +kernel) ce_p165 (ce_pc ce_p165 (ce_pc ce_p165 (ce_pc ce_p165 ce_pn)))
def ce_m435 : Nat → Nat → Int := ce_F 7 12 0x289000081001002281402440000040208040008048001000001048000000209
theorem ce_p435 : rk_M 2 ce_m435 := ce_st (b1 := 2) (T := ce_m210) (rem := [(1, 1, 1), (1, 3, 5)]) (rows := [0, 3, 6, 9, 10, 4, 12]) (cols := [8, 0, 5, 0, 3, 10, 12, 19, 14, 16, 21, 23]) (L := [(1, 2, [(5, 4, 3)], [0, 3, 6, 9, 10, 4, 12], [4, 0, 7, 2, 0, 8, 10, 19, 14, 16, 21, 23], ce_m205), (3, 2, [(4, 9, 0)], [0, 5, 7, 13, 11, 2, 8], [9, 0, 7, 0, 3, 17, 11, 22, 12, 0, 21, 18], ce_m205), (0, 2, [], [0, 5, 7, 13, 11, 2, 8], [0, 0, 7, 0, 3, 17, 11, 22, 12, 9, 21, 18], ce_m205)]) (by decide +kernel) ce_p210 (ce_pc ce_p205 (ce_pc ce_p205 (ce_pc ce_p205 ce_pn)))
def ce_m436 : Nat → Nat → Int := ce_F 7 12 0x488088000202200081041001200008201200000041048000009009000000081
theorem ce_p436 : rk_M 2 ce_m436 := ce_st (b1 := 2) (T := ce_m168) (rem := []) (rows := [0, 2, 4, 6, 8, 10, 13]) (cols := [2, 7, 16, 10, 8, 14, 12, 18, 24, 22, 20, 4]) (L := [(0, 2, [(4, 2, 1)], [0, 2, 8, 10, 6, 5, 12], [0, 4, 0, 18, 8, 12, 24, 15, 6, 26, 20, 17], ce_m151), (2, 2, [], [0, 2, 8, 10, 6, 5, 12], [0, 4, 0, 18, 8, 12, 24, 15, 6, 26, 20, 17], ce_m151)]) (by decide +kernel) ce_p168 (ce_pc ce_p151 (ce_pc ce_p151 ce_pn))
def ce_m437 : Nat → Nat → Int := ce_F 7 12 0x252000200202408000050200001009041000009040040000009009000000248
theorem ce_p437 : rk_M 2 ce_m437 := ce_st (b1 := 2) (T := ce_m150) (rem := [(1, 1, 1), (1, 2, 2), (1, 3, 6)]) (rows := [0, 6, 10, 2, 5, 8, 13]) (cols := [9, 0, 0, 0, 4, 12, 6, 11, 16, 14, 21, 24]) (L := [(1, 2, [], [0, 12, 3, 5, 6, 8, 10], [18, 0, 11, 22, 13, 20, 5, 2, 9, 7, 14, 16], ce_m215), (2, 2, [], [0, 7, 11, 3, 4, 9, 12], [8, 0, 0, 26, 5, 13, 7, 10, 17, 15, 20, 25], ce_m150), (3, 2, [], [0, 6, 10, 2, 5, 8, 13], [9, 0, 0, 0, 4, 12, 6, 11, 16, 14, 21, 24], ce_m150)]) (by decide +kernel) ce_p150 (ce_pc ce_p215 (ce_pc ce_p150 (ce_pc ce_p150 ce_pn)))
def ce_m438 : Nat → Nat → Int := ce_F 7 11 0x144044800a050200208440240050040209000049040208241000209009
theorem ce_p438 : rk_M 2 ce_m438 := ce_st (b1 := 2) (T := ce_m223) (rem := [(1, 1, 1)]) (rows := [0, 3, 7, 8, 5, 12, 11]) (cols := [13, 0, 11, 3, 9, 18, 5, 16, 7, 15, 21]) (L := [(1, 2, [(5, 7, 6), (5, 8, 5), (4, 10, 4)], [0, 2, 8, 11, 6, 13, 4], [13, 0, 10, 6, 8, 5, 2, 0, 0, 15], ce_m344), (5, 2, [(5, 9, 7), (4, 10, 0)], [0, 4, 6, 9, 2, 10, 12], [14, 0, 8, 4, 6, 0, 2, 10, 12], ce_m343), (7, 2, [(4, 2, 0), (4, 4, 3)], [0, 2, 6, 9, 4, 13, 10], [10, 0, 0, 2, 0, 0, 4, 0, 6, 14, 20], ce_m223), (0, 2, [(4, 8, 4)], [0, 2, 6, 9, 4, 13, 10], [0, 0, 10, 2, 6, 0, 4, 0, 0, 14, 20], ce_m223), (4, 2, [], [0, 2, 6, 9, 4, 13, 10], [0, 0, 10, 2, 0, 0, 4, 0, 6, 14, 20], ce_m223)]) (by decide +kernel) ce_p223 (ce_pc ce_p344 (ce_pc ce_p343 (ce_pc ce_p223 (ce_pc ce_p223 (ce_pc ce_p223 ce_pn)))))
def ce_m439 : Nat → Nat → Int := ce_F 7 11 0x228a000042088440082002201202280040280400240241208000040249
theorem ce_p439 : rk_M 2 ce_m439 := ce_st (b1 := 2) (T := ce_m224) (rem := [(1, 2, 1)]) (rows := [0, 3, 4, 6, 8, 10, 12]) (cols := [14, 10, 0, 12, 7, 5, 16, 9, 3, 18, 20]) (L := [(2, 2, [(5, 4, 3), (5, 5, 1), (5, 7, 6), (5, 8, 0)], [0, 4, 3, 13, 7, 8, 11], [3, 5, 0, 11, 0, 0, 15, 0, 0, 7, 20], ce_m223), (1, 2, [(5, 9, 6), (5, 10, 0)], [0, 2, 5, 11, 7, 13, 9], [11, 0, 0, 14, 2, 4, 8, 12, 6], ce_m344), (3, 2, [(4, 9, 0), (4, 10, 6)], [0, 4, 3, 13, 7, 8, 11], [7, 0, 0, 0, 10, 4, 20, 14, 2], ce_m223), (0, 2, [], [0, 3, 4, 11, 6, 9, 12], [0, 0, 0, 0, 9, 3, 7, 10, 5, 12, 15], ce_m343), (6, 2, [], [0, 4, 3, 13, 7, 8, 11], [0, 0, 0, 0, 10, 4, 0, 14, 2, 7, 20], ce_m223)]) (by decide +kernel) ce_p224 (ce_pc ce_p223 (ce_pc ce_p344 (ce_pc ce_p223 (ce_pc ce_p343 (ce_pc ce_p223 ce_pn)))))
def ce_m440 : Nat → Nat → Int := ce_F 7 11 0x108a440001210051042201041048041048050002200009008200001209
theorem ce_p440 : rk_M 2 ce_m440 := ce_st (b1 := 2) (T := ce_m304) (rem := [(4, 9, 3), (4, 10, 4)]) (rows := [0, 2, 5, 10, 6, 9, 13]) (cols := [2, 13, 4, 19, 16, 8, 6, 10, 15]) (L := [(3, 2, [(1, 1, 2)], [0, 4, 3, 7, 8, 11, 12], [12, 0, 2, 0, 16, 8, 14, 6, 5, 11, 18], ce_m298), (4, 2, [(4, 5, 0), (4, 8, 1)], [0, 9, 5, 3, 6, 11, 12], [7, 3, 12, 0, 0, 0, 22, 14, 0, 9, 18], ce_m178), (0, 2, [(5, 2, 1)], [0, 9, 5, 3, 6, 11, 12], [0, 13, 0, 0, 0, 7, 22, 14, 3, 9, 18], ce_m178), (1, 2, [], [0, 9, 5, 3, 6, 11, 12], [0, 0, 12, 0, 0, 7, 22, 14, 3, 9, 18], ce_m178)]) (by decide +kernel) ce_p304 (ce_pc ce_p298 (ce_pc ce_p178 (ce_pc ce_p178 (ce_pc ce_p178 ce_pn))))
def ce_m441 : Nat → Nat → Int := ce_F 7 11 0x240221100900824028148800009100220004008a200001208200040209
theorem ce_p441 : rk_M 2 ce_m441 := ce_st (b1 := 2) (T := ce_m223) (rem := [(1, 1, 2), (4, 10, 6)]) (rows := [0, 4, 3, 10, 9, 12, 6]) (cols := [16, 0, 2, 9, 4, 10, 13, 18, 7, 21]) (L := [(1, 2, [(4, 4, 0), (4, 9, 3)], [0, 11, 2, 7, 4, 9, 12], [7, 0, 9, 20, 0, 18, 3, 11, 4, 0, 15], ce_m224), (0, 2, [(5, 3, 2), (5, 6, 5)], [0, 8, 7, 2, 5, 11, 12], [0, 0, 6, 0, 14, 17, 0, 2, 5, 9, 18], ce_m180), (6, 2, [(4, 8, 3)], [0, 8, 7, 2, 5, 11, 12], [0, 0, 6, 5, 14, 17, 0, 2, 0, 9, 18], ce_m180), (3, 2, [], [0, 8, 7, 2, 5, 11, 12], [0, 0, 6, 0, 14, 17, 0, 2, 5, 9, 18], ce_m180)]) (by decide +kernel) ce_p223 (ce_pc ce_p224 (ce_pc ce_p180 (ce_pc ce_p180 (ce_pc ce_p180 ce_pn))))
def ce_m442 : Nat → Nat → Int := ce_F 7 11 0x2241088008052208002401408040088240048009040009040200001049
theorem ce_p442 : rk_M 2 ce_m442 := ce_st (b1 := 2) (T := ce_m175) (rem := []) (rows := [0, 3, 5, 8, 6, 12, 11]) (cols := [3, 10, 17, 5, 18, 7, 9, 15, 13, 20, 22]) (L := [(0, 2, [(3, 4, 2), (5, 5, 2)], [0, 4, 6, 3, 0, 9, 10], [0, 3, 7, 12, 5, 0, 14, 10, 16, 9, 19], ce_m75), (1, 2, [(3, 4, 2), (4, 7, 2), (4, 10, 4)], [0, 2, 11, 5, 0, 7, 8], [0, 0, 19, 12, 17, 4, 2, 0, 20, 11], ce_m61), (2, 2, [(3, 4, 2), (5, 8, 4)], [0, 2, 11, 5, 0, 7, 8], [0, 0, 0, 12, 21, 4, 2, 19, 0, 11, 17], ce_m61), (4, 2, [(3, 4, 2)], [0, 2, 11, 5, 0, 7, 8], [0, 0, 0, 12, 0, 4, 2, 19, 20, 11, 17], ce_m61)]) (by decide +kernel) ce_p175 (ce_pc ce_p75 (ce_pc ce_p61 (ce_pc ce_p61 (ce_pc ce_p61 ce_pn))))
def ce_m443 : Nat → Nat → Int := ce_F 7 11 0x1282201008011288042408008041001208048041040001208200040209
theorem ce_p443 : rk_M 2 ce_m443 := ce_st (b1 := 2) (T := ce_m227) (rem := [(1, 1, 4)]) (rows := [0, 2, 6, 8, 4, 10, 12]) (cols := [4, 0, 8, 17, 10, 2, 21, 7, 13, 18, 14]) (L := [(1, 2, [(5, 10, 6)], [0, 3, 5, 9, 12, 7, 11], [3, 0, 7, 18, 5, 9, 14, 13, 17, 11], ce_m295), (3, 2, [(4, 4, 0), (5, 9, 6)], [0, 2, 6, 8, 4, 10, 12], [10, 0, 8, 0, 0, 2, 19, 7, 13, 0, 14], ce_m227), (6, 2, [(4, 2, 0)], [0, 2, 6, 8, 4, 10, 12], [8, 0, 0, 0, 10, 2, 0, 7, 13, 18, 14], ce_m227), (0, 2, [], [0, 2, 6, 8, 4, 10, 12], [0, 0, 8, 0, 10, 2, 0, 7, 13, 18, 14], ce_m227)]) (by decide +kernel) ce_p227 (ce_pc ce_p295 (ce_pc ce_p227 (ce_pc ce_p227 (ce_pc ce_p227 ce_pn))))
def ce_m444 : Nat → Nat → Int := ce_F 7 11 0x228220800a208200282408040009009008208008240001240200040049
theorem ce_p444 : rk_M 2 ce_m444 := ce_st (b1 := 2) (T := ce_m296) (rem := [(1, 1, 2), (1, 2, 4)]) (rows := [0, 6, 2, 8, 5, 12, 10]) (cols := [6, 0, 0, 4, 10, 9, 19, 2, 12, 14, 16]) (L := [(1, 2, [(4, 4, 0), (5, 9, 6)], [0, 11, 7, 3, 4, 9, 12], [7, 0, 10, 9, 0, 18, 20, 5, 3, 0, 15], ce_m224), (2, 2, [(4, 10, 6)], [0, 2, 4, 6, 13, 10, 8], [6, 0, 0, 4, 2, 10, 15, 8, 16, 12], ce_m333), (6, 2, [(4, 3, 0)], [0, 11, 7, 3, 4, 9, 12], [9, 0, 0, 0, 7, 18, 0, 5, 3, 21, 15], ce_m224), (0, 2, [], [0, 11, 7, 3, 4, 9, 12], [0, 0, 0, 9, 7, 18, 0, 5, 3, 21, 15], ce_m224)]) (by decide +kernel) ce_p296 (ce_pc ce_p224 (ce_pc ce_p333 (ce_pc ce_p224 (ce_pc ce_p224 ce_pn))))
def ce_m445 : Nat → Nat → Int := ce_F 7 11 0x220a011208201481041048009048000248008210200008240200000049
theorem ce_p445 : rk_M 2 ce_m445 := ce_st (b1 := 2) (T := ce_m228) (rem := [(4, 9, 2)]) (rows := [0, 2, 7, 4, 8, 13, 11]) (cols := [2, 6, 10, 4, 8, 18, 14, 13, 16, 0, 20]) (L := [(2, 2, [(4, 5, 1), (4, 6, 0)], [0, 9, 6, 4, 11, 12, 2], [9, 20, 0, 13, 23, 0, 0, 2, 18, 4, 17], ce_m173), (0, 2, [(5, 3, 1)], [0, 9, 6, 4, 11, 12, 2], [0, 12, 0, 0, 23, 20, 9, 2, 18, 4, 17], ce_m173), (1, 2, [], [0, 9, 6, 4, 11, 12, 2], [0, 0, 0, 13, 23, 20, 9, 2, 18, 4, 17], ce_m173)]) (by decide +kernel) ce_p228 (ce_pc ce_p173 (ce_pc ce_p173 (ce_pc ce_p173 ce_pn)))
def ce_m446 : Nat → Nat → Int := ce_F 7 11 0x144144000a08804000240a200040082440048041040001048200041009
theorem ce_p446 : rk_M 2 ce_m446 := ce_st (b1 := 2) (T := ce_m223) (rem := [(1, 1, 3), (4, 8, 4), (4, 10, 6)]) (rows := [0, 10, 8, 3, 6, 4, 12]) (cols := [18, 0, 6, 2, 13, 8, 16, 11, 0, 5]) (L := [(1, 2, [(4, 2, 0), (5, 9, 6)], [0, 3, 5, 8, 11, 7, 13], [3, 0, 0, 5, 13, 11, 9, 7, 19, 0, 15], ce_m300), (0, 2, [], [0, 10, 8, 3, 6, 4, 12], [0, 0, 6, 2, 21, 8, 14, 11, 13, 5, 16], ce_m223), (6, 2, [(4, 7, 4)], [0, 11, 9, 2, 7, 5, 13], [0, 0, 7, 3, 10, 9, 0, 0, 12, 4, 17], ce_m223), (4, 2, [], [0, 11, 9, 2, 7, 5, 13], [0, 0, 7, 3, 0, 9, 0, 10, 12, 4, 17], ce_m223)]) (by decide +kernel) ce_p223 (ce_pc ce_p300 (ce_pc ce_p223 (ce_pc ce_p223 (ce_pc ce_p223 ce_pn))))
def ce_m447 : Nat → Nat → Int := ce_F 7 11 0x2490440001041440048088008012408040049001040001041200001049
theorem ce_p447 : rk_M 2 ce_m447 := ce_st (b1 := 2) (T := ce_m245) (rem := [(1, 2, 2)]) (rows := [0, 3, 5, 9, 11, 7, 12]) (cols := [3, 7, 0, 5, 16, 11, 9, 13, 15, 19, 21]) (L := [(2, 2, [(3, 3, 2), (1, 0, 1), (5, 7, 4)], [0, 2, 9, 0, 6, 4, 11], [0, 6, 0, 2, 13, 4, 15, 0, 19, 10, 16], ce_m88), (0, 2, [(3, 3, 2), (5, 6, 1)], [0, 3, 5, 0, 7, 9, 10], [0, 8, 0, 5, 2, 7, 0, 11, 15, 13, 17], ce_m126), (1, 2, [(3, 3, 2), (5, 5, 4)], [0, 7, 8, 0, 5, 3, 10], [0, 0, 0, 5, 10, 0, 6, 15, 22, 13, 19], ce_m50), (4, 2, [(3, 3, 2)], [0, 7, 8, 0, 5, 3, 10], [0, 0, 0, 5, 0, 11, 6, 15, 22, 13, 19], ce_m50)]) (by decide +kernel) ce_p245 (ce_pc ce_p88 (ce_pc ce_p126 (ce_pc ce_p50 (ce_pc ce_p50 ce_pn))))
def ce_m448 : Nat → Nat → Int := ce_F 7 11 0x2050041049041001201480440211010040209000240001240200000049
theorem ce_p448 : rk_M 2 ce_m448 := ce_st (b1 := 2) (T := ce_m179) (rem := []) (rows := [0, 2, 8, 7, 5, 12, 10]) (cols := [6, 17, 19, 2, 4, 8, 10, 12, 15, 20, 23]) (L := [(2, 2, [(3, 6, 3), (4, 7, 1)], [0, 3, 9, 6, 4, 11], [7, 15, 0, 3, 5, 9, 13, 0, 10, 21, 18], ce_m60), (1, 2, [(3, 6, 3), (4, 4, 0)], [0, 8, 2, 10, 5, 6], [22, 0, 0, 6, 0, 8, 2, 10, 19, 4, 20], ce_m50), (0, 2, [(3, 6, 3)], [0, 8, 2, 10, 5, 6], [0, 0, 0, 6, 22, 8, 2, 10, 19, 4, 20], ce_m50)]) (by decide +kernel) ce_p179 (ce_pc ce_p60 (ce_pc ce_p50 (ce_pc ce_p50 ce_pn)))
def ce_m449 : Nat → Nat → Int := ce_F 7 11 0x52041209009008282012200088408040009200040000209200000249
theorem ce_p449 : rk_M 2 ce_m449 := ce_st (b1 := 2) (T := ce_m242) (rem := [(1, 3, 4)]) (rows := [0, 4, 6, 8, 3, 12, 10]) (cols := [6, 10, 18, 0, 2, 4, 13, 17, 8, 21, 14]) (L := [(3, 2, [(4, 4, 1)], [0, 3, 7, 5, 10, 13, 9], [5, 3, 7, 0, 0, 17, 8, 10, 13, 14, 19], ce_m303), (0, 2, [(0, 1, 4), (5, 6, 1), (5, 7, 2), (4, 8, 4)], [0, 0, 8, 10, 3, 4, 6], [0, 11, 16, 0, 6, 4, 0, 0, 0, 14, 2], ce_m53), (1, 2, [(0, 1, 4), (4, 8, 4), (4, 9, 2)], [0, 0, 8, 10, 3, 4, 6], [0, 0, 14, 0, 6, 4, 10, 17, 0, 0, 2], ce_m53), (2, 2, [(0, 1, 4), (4, 8, 4)], [0, 0, 8, 10, 3, 4, 6], [0, 0, 0, 0, 6, 4, 10, 17, 0, 14, 2], ce_m53)]) (by decide +kernel) ce_p242 (ce_pc ce_p303 (ce_pc ce_p53 (ce_pc ce_p53 (ce_pc ce_p53 ce_pn))))
def ce_m450 : Nat → Nat → Int := ce_F 7 11 0x1252200001211200082001440208041008200241200048041000009041
theorem ce_p450 : rk_M 2 ce_m450 := ce_st (b1 := 2) (T := ce_m237) (rem := [(1, 0, 3)]) (rows := [0, 2, 8, 4, 7, 10, 12]) (cols := [0, 4, 17, 2, 19, 8, 10, 14, 6, 20, 12]) (L := [(0, 2, [(3, 4, 3), (4, 9, 5)], [0, 5, 3, 10, 0, 7, 9], [0, 3, 11, 15, 7, 5, 9, 13, 17, 0, 19], ce_m113), (2, 2, [(3, 4, 3), (1, 4, 5), (4, 8, 5)], [0, 10, 2, 4, 0, 6, 8], [0, 10, 0, 14, 0, 8, 17, 19, 0, 4, 12], ce_m84), (4, 2, [(3, 4, 3), (4, 10, 5)], [0, 10, 2, 4, 0, 6, 8], [0, 10, 0, 14, 0, 12, 17, 19, 8, 4], ce_m84), (5, 2, [(3, 4, 3)], [0, 10, 2, 4, 0, 6, 8], [0, 10, 0, 14, 0, 0, 17, 19, 8, 4, 12], ce_m84)]) (by decide +kernel) ce_p237 (ce_pc ce_p113 (ce_pc ce_p84 (ce_pc ce_p84 (ce_pc ce_p84 ce_pn))))
def ce_m451 : Nat → Nat → Int := ce_F 7 11 0x109228000809101101040a200040408440040042200048008200008209
theorem ce_p451 : rk_M 2 ce_m451 := ce_st (b1 := 2) (T := ce_m303) (rem := [(1, 0, 1), (1, 3, 4)]) (rows := [0, 3, 4, 8, 6, 10, 12]) (cols := [0, 12, 3, 0, 8, 16, 7, 5, 14, 10, 18]) (L := [(0, 2, [(5, 2, 1), (5, 7, 5)], [0, 9, 4, 10, 6, 2, 12], [0, 4, 0, 12, 6, 2, 17, 0, 22, 14, 20], ce_m152), (3, 2, [(4, 10, 5)], [0, 3, 10, 6, 4, 12, 8], [0, 17, 9, 0, 15, 18, 7, 5, 13, 11], ce_m231), (1, 2, [(5, 5, 4)], [0, 9, 4, 10, 6, 2, 12], [0, 0, 5, 0, 6, 0, 17, 3, 22, 14, 20], ce_m152), (5, 2, [], [0, 9, 4, 10, 6, 2, 12], [0, 0, 5, 0, 6, 0, 17, 3, 22, 14, 20], ce_m152)]) (by decide +kernel) ce_p303 (ce_pc ce_p152 (ce_pc ce_p231 (ce_pc ce_p152 (ce_pc ce_p152 ce_pn))))
def ce_m452 : Nat → Nat → Int := ce_F 7 11 0x1452001000442211040091200041009008001012200201008200201009
theorem ce_p452 : rk_M 2 ce_m452 := ce_st (b1 := 2) (T := ce_m182) (rem := []) (rows := [0, 3, 4, 7, 9, 10, 13]) (cols := [5, 12, 3, 7, 16, 9, 10, 22, 15, 18, 21]) (L := [(0, 2, [(3, 5, 1), (5, 5, 4), (5, 8, 7)], [0, 6, 3, 10, 8, 0, 4], [0, 7, 4, 8, 19, 0, 3, 11, 0, 17, 12], ce_m67), (1, 2, [(3, 5, 1), (4, 4, 3)], [0, 5, 9, 6, 2, 0, 10], [0, 0, 11, 2, 0, 5, 9, 12, 17, 18, 14], ce_m100), (4, 2, [(3, 5, 1), (5, 10, 7)], [0, 11, 3, 4, 6, 0, 8], [0, 0, 12, 4, 0, 19, 3, 17, 20, 10], ce_m61), (7, 2, [(3, 5, 1)], [0, 11, 3, 4, 6, 0, 8], [0, 0, 12, 4, 0, 19, 3, 0, 20, 10, 16], ce_m61)]) (by decide +kernel) ce_p182 (ce_pc ce_p67 (ce_pc ce_p100 (ce_pc ce_p61 (ce_pc ce_p61 ce_pn))))
def ce_m453 : Nat → Nat → Int := ce_F 7 11 0x1249000052480009040209001040281040080048200041008200040049
theorem ce_p453 : rk_M 2 ce_m453 := ce_st (b1 := 2) (T := ce_m181) (rem := []) (rows := [0, 4, 2, 8, 6, 10, 12]) (cols := [10, 8, 14, 4, 2, 6, 18, 12, 17, 22, 20]) (L := [(2, 2, [(3, 6, 5), (4, 10, 0)], [0, 7, 5, 8, 3, 10], [11, 9, 0, 13, 3, 5, 16, 7, 14, 18], ce_m113), (6, 2, [(3, 6, 5), (4, 5, 0), (5, 8, 1)], [0, 10, 6, 9, 2, 5], [8, 11, 0, 14, 4, 0, 0, 6, 0, 12, 2], ce_m51), (0, 2, [(3, 6, 5)], [0, 2, 11, 7, 4, 9], [0, 9, 0, 13, 14, 4, 0, 2, 18, 17, 10], ce_m52), (1, 2, [(3, 6, 5)], [0, 10, 6, 9, 2, 5], [0, 0, 0, 14, 4, 8, 0, 6, 10, 12, 2], ce_m51)]) (by decide +kernel) ce_p181 (ce_pc ce_p113 (ce_pc ce_p51 (ce_pc ce_p52 (ce_pc ce_p51 ce_pn))))
def ce_m454 : Nat → Nat → Int := ce_F 7 11 0x9225000801121105008840004000944004000a200048008200009009
theorem ce_p454 : rk_M 2 ce_m454 := ce_st (b1 := 2) (T := ce_m235) (rem := [(1, 0, 1)]) (rows := [0, 3, 4, 6, 8, 10, 12]) (cols := [0, 10, 3, 8, 18, 20, 5, 7, 12, 14, 16]) (L := [(0, 2, [(5, 2, 1), (5, 6, 5)], [0, 3, 4, 10, 6, 8, 12], [0, 4, 0, 6, 16, 2, 0, 21, 22, 14, 12], ce_m152), (1, 2, [(5, 5, 3), (5, 8, 4)], [0, 4, 3, 9, 6, 11, 12], [0, 0, 4, 3, 20, 0, 6, 22, 0, 13, 15], ce_m152), (4, 2, [(5, 9, 5)], [0, 4, 3, 9, 6, 11, 12], [0, 0, 4, 3, 0, 12, 6, 22, 21, 0, 15], ce_m152), (5, 2, [], [0, 4, 3, 9, 6, 11, 12], [0, 0, 4, 3, 0, 0, 6, 22, 21, 13, 15], ce_m152)]) (by decide +kernel) ce_p235 (ce_pc ce_p152 (ce_pc ce_p152 (ce_pc ce_p152 (ce_pc ce_p152 ce_pn))))
def ce_m455 : Nat → Nat → Int := ce_F 7 11 0x1089240010290011050208200040208048000242200048008201000209
theorem ce_p455 : rk_M 2 ce_m455 := ce_st (b1 := 2) (T := ce_m236) (rem := [(1, 3, 4)]) (rows := [0, 5, 2, 9, 6, 10, 12]) (cols := [9, 12, 3, 0, 14, 4, 17, 7, 20, 11, 19]) (L := [(3, 2, [(5, 10, 8)], [0, 3, 8, 5, 12, 10, 7], [5, 15, 7, 0, 11, 13, 3, 9, 20, 17], ce_m223), (0, 2, [(5, 2, 1), (5, 8, 6)], [0, 2, 9, 4, 13, 11, 6], [0, 7, 0, 0, 10, 12, 2, 8, 0, 16, 20], ce_m223), (8, 2, [(4, 4, 1)], [0, 2, 9, 4, 13, 11, 6], [0, 10, 6, 0, 0, 12, 2, 8, 0, 16, 20], ce_m223), (1, 2, [], [0, 2, 9, 4, 13, 11, 6], [0, 0, 6, 0, 10, 12, 2, 8, 0, 16, 20], ce_m223)]) (by decide +kernel) ce_p236 (ce_pc ce_p223 (ce_pc ce_p223 (ce_pc ce_p223 (ce_pc ce_p223 ce_pn))))
def ce_m456 : Nat → Nat → Int := ce_F 7 11 0x1409001050410240012011040048040048008208040008009200001049
theorem ce_p456 : rk_M 2 ce_m456 := ce_st (b1 := 2) (T := ce_m192) (rem := []) (rows := [0, 4, 2, 6, 11, 8, 12]) (cols := [2, 6, 12, 4, 16, 8, 10, 14, 18, 20, 22]) (L := [(1, 2, [(3, 4, 3), (4, 7, 0), (5, 9, 2)], [0, 3, 6, 5, 0, 10, 9], [14, 0, 12, 20, 6, 11, 9, 0, 19, 0, 23], ce_m51), (4, 2, [(3, 4, 3), (4, 6, 2)], [0, 3, 7, 5, 0, 8, 11], [5, 0, 7, 15, 0, 9, 0, 11, 3, 13, 17], ce_m135), (2, 1, [(0, 1, 6), (3, 4, 3), (4, 5, 0), (4, 10, 6)], [0, 0, 2, 4, 0, 6, 9], [6, 0, 0, 2, 0, 0, 5, 10, 12, 8], ce_m13), (0, 1, [(0, 1, 6), (3, 4, 3), (4, 10, 6)], [0, 0, 2, 4, 0, 6, 9], [0, 0, 0, 2, 0, 6, 5, 10, 12, 8], ce_m13)]) (by decide +kernel) ce_p192 (ce_pc ce_p51 (ce_pc ce_p135 (ce_pc ce_p13 (ce_pc ce_p13 ce_pn))))
def ce_m457 : Nat → Nat → Int := ce_F 7 11 0x48a200209088040081012040200248008200088200208008200208009
theorem ce_p457 : rk_M 2 ce_m457 := ce_st (b1 := 2) (T := ce_m193) (rem := []) (rows := [0, 3, 4, 7, 9, 11, 12]) (cols := [3, 16, 5, 6, 9, 21, 11, 22, 13, 14, 19]) (L := [(0, 2, [(5, 7, 6), (5, 8, 5)], [0, 10, 12, 6, 8, 4, 3], [0, 9, 18, 16, 12, 7, 2, 0, 0, 4, 10], ce_m223), (1, 2, [(4, 5, 4), (5, 7, 3)], [0, 6, 2, 9, 12, 10, 5], [0, 0, 18, 8, 7, 0, 12, 0, 14, 4, 22], ce_m178), (7, 2, [(4, 10, 5)], [0, 6, 2, 9, 12, 10, 5], [0, 0, 18, 8, 7, 22, 12, 0, 14, 4], ce_m178), (5, 2, [], [0, 6, 2, 9, 12, 10, 5], [0, 0, 18, 8, 7, 0, 12, 0, 14, 4, 22], ce_m178)]) (by decide +kernel) ce_p193 (ce_pc ce_p223 (ce_pc ce_p178 (ce_pc ce_p178 (ce_pc ce_p178 ce_pn))))
def ce_m458 : Nat → Nat → Int := ce_F 7 11 0x9228801208140004a080200200009440040042200048008200008209
theorem ce_p458 : rk_M 2 ce_m458 := ce_st (b1 := 2) (T := ce_m249) (rem := [(1, 0, 1)]) (rows := [0, 3, 4, 6, 10, 8, 12]) (cols := [0, 8, 3, 18, 10, 20, 7, 5, 12, 15, 16]) (L := [(0, 2, [(5, 2, 1), (5, 7, 5)], [0, 9, 10, 2, 4, 7, 12], [0, 6, 0, 2, 8, 21, 15, 0, 19, 10, 4], ce_m224), (1, 2, [(5, 5, 4), (5, 8, 3)], [0, 10, 8, 6, 4, 3, 13], [0, 0, 15, 16, 6, 0, 19, 8, 0, 2, 4], ce_m180), (5, 2, [(4, 10, 3)], [0, 10, 8, 6, 4, 3, 13], [0, 0, 15, 4, 6, 0, 19, 8, 17, 2], ce_m180), (3, 2, [], [0, 10, 8, 6, 4, 3, 13], [0, 0, 15, 0, 6, 0, 19, 8, 17, 2, 4], ce_m180)]) (by decide +kernel) ce_p249 (ce_pc ce_p224 (ce_pc ce_p180 (ce_pc ce_p180 (ce_pc ce_p180 ce_pn))))
def ce_m459 : Nat → Nat → Int := ce_F 7 11 0x2081440001040488050088008208041008209001040008240200008049
theorem ce_p459 : rk_M 2 ce_m459 := ce_st (b1 := 2) (T := ce_m180) (rem := [(1, 1, 4), (4, 7, 2), (4, 10, 5)]) (rows := [0, 12, 2, 10, 7, 4, 8]) (cols := [8, 0, 2, 19, 17, 15, 6, 0, 13, 4]) (L := [(1, 2, [(4, 8, 5), (4, 9, 2)], [0, 6, 10, 13, 3, 8, 4], [8, 0, 6, 12, 10, 17, 2, 18, 0, 0, 5], ce_m223), (2, 2, [(4, 3, 0)], [0, 9, 6, 3, 5, 12, 10], [7, 0, 0, 0, 22, 3, 12, 18, 9, 14, 5], ce_m178), (0, 2, [(5, 6, 5)], [0, 9, 6, 3, 5, 12, 10], [0, 0, 0, 7, 22, 13, 0, 18, 9, 14, 5], ce_m178), (5, 2, [], [0, 9, 6, 3, 5, 12, 10], [0, 0, 0, 7, 22, 0, 12, 18, 9, 14, 5], ce_m178)]) (by decide +kernel) ce_p180 (ce_pc ce_p223 (ce_pc ce_p178 (ce_pc ce_p178 (ce_pc ce_p178 ce_pn))))
def ce_m460 : Nat → Nat → Int := ce_F 7 11 0x2409440008400488012002440048440040008011200008240200008049
theorem ce_p460 : rk_M 2 ce_m460 := ce_st (b1 := 2) (T := ce_m250) (rem := [(1, 0, 1)]) (rows := [0, 2, 5, 11, 7, 9, 12]) (cols := [0, 9, 11, 2, 4, 21, 6, 13, 14, 16, 19]) (L := [(0, 2, [(5, 3, 2), (5, 6, 5)], [0, 8, 4, 11, 13, 7, 2], [0, 10, 14, 0, 12, 9, 0, 4, 20, 17, 3], ce_m173), (1, 2, [(5, 7, 5), (5, 8, 2)], [0, 8, 4, 11, 13, 7, 2], [0, 0, 21, 15, 12, 5, 8, 0, 0, 17, 3], ce_m173), (5, 2, [], [0, 2, 7, 5, 11, 13, 8], [0, 0, 6, 4, 18, 0, 2, 10, 17, 15, 21], ce_m230), (2, 2, [], [0, 8, 4, 11, 13, 7, 2], [0, 0, 0, 15, 12, 0, 8, 4, 20, 17, 3], ce_m173)]) (by decide +kernel) ce_p250 (ce_pc ce_p173 (ce_pc ce_p173 (ce_pc ce_p230 (ce_pc ce_p173 ce_pn))))
def ce_m461 : Nat → Nat → Int := ce_F 7 11 0x2050401209009001290090040040049008041080200041040200000049
theorem ce_p461 : rk_M 2 ce_m461 := ce_st (b1 := 2) (T := ce_m183) (rem := []) (rows := [0, 2, 5, 6, 9, 10, 13]) (cols := [8, 17, 21, 2, 4, 6, 11, 12, 15, 18, 22]) (L := [(2, 2, [(3, 5, 4), (4, 5, 0), (4, 6, 1)], [0, 2, 9, 4, 11, 0, 7], [10, 23, 0, 2, 6, 0, 0, 4, 9, 18, 20], ce_m50), (0, 2, [(3, 5, 4)], [0, 8, 3, 4, 6, 0, 11], [0, 7, 0, 12, 2, 14, 5, 20, 9, 10, 19], ce_m60), (1, 2, [(3, 5, 4)], [0, 2, 9, 4, 11, 0, 7], [0, 0, 0, 2, 6, 10, 23, 4, 9, 18, 20], ce_m50)]) (by decide +kernel) ce_p183 (ce_pc ce_p50 (ce_pc ce_p60 (ce_pc ce_p50 ce_pn)))
def ce_m462 : Nat → Nat → Int := ce_F 7 11 0x1411401002402048041009008048048040000049200041001200040049
theorem ce_p462 : rk_M 2 ce_m462 := ce_st (b1 := 2) (T := ce_m306) (rem := [(1, 0, 1), (1, 6, 6)]) (rows := [0, 2, 4, 8, 6, 13, 11]) (cols := [0, 2, 12, 8, 10, 6, 0, 4, 16, 18, 14]) (L := [(0, 2, [(4, 4, 1), (5, 7, 6)], [0, 7, 2, 4, 8, 10, 12], [0, 2, 4, 8, 0, 6, 12, 0, 14, 16, 20], ce_m230), (6, 2, [(4, 3, 2)], [0, 4, 2, 10, 12, 6, 9], [0, 2, 4, 0, 10, 6, 0, 8, 14, 12, 17], ce_m337), (2, 2, [(4, 5, 1)], [0, 8, 5, 6, 10, 3, 13], [0, 4, 0, 3, 13, 0, 0, 20, 6, 8, 22], ce_m176), (1, 2, [], [0, 8, 5, 6, 10, 3, 13], [0, 0, 0, 3, 13, 4, 0, 20, 6, 8, 22], ce_m176)]) (by decide +kernel) ce_p306 (ce_pc ce_p230 (ce_pc ce_p337 (ce_pc ce_p176 (ce_pc ce_p176 ce_pn))))
def ce_m463 : Nat → Nat → Int := ce_F 7 11 0x8928800908004804000a240240201040009002200001048201001009
theorem ce_p463 : rk_M 2 ce_m463 := ce_st (b1 := 2) (T := ce_m310) (rem := [(1, 0, 1), (1, 8, 6)]) (rows := [0, 2, 5, 12, 6, 8, 10]) (cols := [0, 9, 2, 6, 15, 4, 13, 11, 0, 16, 18]) (L := [(0, 2, [(5, 5, 4)], [0, 6, 3, 11, 4, 8, 13], [0, 3, 4, 14, 11, 0, 9, 7, 17, 18, 12], ce_m304), (8, 2, [(1, 4, 4), (4, 6, 1)], [0, 6, 8, 2, 4, 10, 12], [0, 6, 12, 2, 0, 14, 0, 23, 0, 8, 4], ce_m178), (1, 2, [], [0, 2, 5, 12, 6, 8, 10], [0, 0, 2, 6, 12, 4, 11, 9, 0, 14, 16], ce_m334), (4, 2, [], [0, 6, 8, 2, 4, 10, 12], [0, 0, 12, 2, 0, 14, 6, 23, 0, 8, 4], ce_m178)]) (by decide +kernel) ce_p310 (ce_pc ce_p304 (ce_pc ce_p178 (ce_pc ce_p334 (ce_pc ce_p178 ce_pn))))
def ce_m464 : Nat → Nat → Int := ce_F 7 11 0x2082210201048240202480088240201008049001040001488000000009
theorem ce_p464 : rk_M 2 ce_m464 := ce_st (b1 := 2) (T := ce_m174) (rem := []) (rows := [0, 3, 5, 8, 6, 10, 13]) (cols := [17, 18, 3, 4, 6, 9, 11, 13, 15, 20, 22]) (L := [(1, 2, [(3, 4, 2), (4, 6, 0)], [0, 3, 7, 8, 0, 4, 11], [14, 0, 5, 6, 2, 9, 0, 10, 19, 12, 20], ce_m60), (0, 2, [(3, 4, 2)], [0, 3, 7, 8, 0, 4, 11], [0, 0, 5, 6, 2, 9, 14, 10, 19, 12, 20], ce_m60)]) (by decide +kernel) ce_p174 (ce_pc ce_p60 (ce_pc ce_p60 ce_pn))
def ce_m465 : Nat → Nat → Int := ce_F 7 11 0x2410210010208408081408008240408040240008200048008200009009
theorem ce_p465 : rk_M 2 ce_m465 := ce_st (b1 := 2) (T := ce_m277) (rem := [(1, 0, 1)]) (rows := [0, 3, 5, 10, 12, 7, 8]) (cols := [0, 15, 3, 9, 16, 18, 5, 7, 11, 13, 20]) (L := [(0, 2, [(5, 6, 4), (5, 7, 5)], [0, 4, 9, 3, 13, 6, 10], [0, 3, 10, 13, 5, 19, 0, 0, 20, 7, 9], ce_m224), (4, 2, [(4, 8, 1), (5, 10, 5)], [0, 9, 10, 13, 2, 4, 6], [0, 2, 10, 12, 0, 6, 16, 5, 0, 18], ce_m172), (5, 2, [(4, 9, 1)], [0, 9, 10, 13, 2, 4, 6], [0, 18, 10, 12, 0, 0, 16, 5, 2, 0, 7], ce_m172), (1, 2, [], [0, 9, 10, 13, 2, 4, 6], [0, 0, 10, 12, 0, 0, 16, 5, 2, 18, 7], ce_m172)]) (by decide +kernel) ce_p277 (ce_pc ce_p224 (ce_pc ce_p172 (ce_pc ce_p172 (ce_pc ce_p172 ce_pn))))
def ce_m466 : Nat → Nat → Int := ce_F 7 11 0x240208101200104800a440008410040241048040040009240000000049
theorem ce_p466 : rk_M 2 ce_m466 := ce_st (b1 := 2) (T := ce_m180) (rem := [(1, 0, 2)]) (rows := [0, 11, 3, 6, 4, 8, 12]) (cols := [0, 10, 20, 12, 9, 14, 18, 3, 5, 16, 7]) (L := [(0, 2, [(5, 8, 1), (5, 10, 2)], [0, 4, 9, 6, 11, 2, 12], [0, 14, 6, 2, 16, 4, 18, 13, 0, 9], ce_m180), (1, 2, [(5, 9, 2)], [0, 4, 9, 6, 11, 2, 12], [0, 0, 8, 2, 16, 4, 18, 13, 15, 0, 7], ce_m180), (2, 2, [], [0, 4, 9, 6, 11, 2, 12], [0, 0, 0, 2, 16, 4, 18, 13, 15, 9, 7], ce_m180)]) (by decide +kernel) ce_p180 (ce_pc ce_p180 (ce_pc ce_p180 (ce_pc ce_p180 ce_pn)))
def ce_m467 : Nat → Nat → Int := ce_F 7 11 0x105200120a010408008408408040240048040448000048040200000049
theorem ce_p467 : rk_M 2 ce_m467 := ce_st (b1 := 2) (T := ce_m173) (rem := [(4, 10, 2)]) (rows := [0, 8, 5, 12, 11, 7, 3]) (cols := [22, 17, 3, 11, 7, 18, 12, 8, 5, 20]) (L := [(0, 2, [(5, 6, 2), (5, 7, 1)], [0, 2, 8, 4, 13, 7, 11], [0, 9, 5, 6, 10, 16, 0, 0, 20, 14, 19], ce_m155), (2, 2, [(4, 9, 1)], [0, 2, 8, 4, 13, 7, 11], [0, 14, 0, 6, 10, 16, 4, 8, 20, 0, 19], ce_m155), (1, 2, [], [0, 2, 8, 4, 13, 7, 11], [0, 0, 0, 6, 10, 16, 4, 8, 20, 14, 19], ce_m155)]) (by decide +kernel) ce_p173 (ce_pc ce_p155 (ce_pc ce_p155 (ce_pc ce_p155 ce_pn)))
def ce_m468 : Nat → Nat → Int := ce_F 7 11 0x1248001050090081000402448040040248081208000040240200000049
theorem ce_p468 : rk_M 2 ce_m468 := ce_st (b1 := 2) (T := ce_m198) (rem := []) (rows := [0, 4, 2, 10, 7, 9, 12]) (cols := [12, 17, 19, 2, 8, 6, 4, 10, 15, 22, 20]) (L := [(0, 2, [(3, 4, 1), (1, 2, 1), (1, 4, 1), (5, 7, 1)], [0, 2, 4, 7, 0, 11, 8], [0, 9, 0, 6, 0, 10, 18, 0, 13, 15, 22], ce_m51), (1, 2, [(3, 4, 1), (1, 4, 1), (4, 10, 2)], [0, 2, 4, 7, 0, 11, 8], [0, 0, 22, 6, 0, 10, 18, 8, 13, 15], ce_m51), (2, 2, [(3, 4, 1), (1, 4, 1)], [0, 2, 4, 7, 0, 11, 8], [0, 0, 0, 6, 0, 10, 18, 8, 13, 15, 22], ce_m51)]) (by decide +kernel) ce_p198 (ce_pc ce_p51 (ce_pc ce_p51 (ce_pc ce_p51 ce_pn)))
def ce_m469 : Nat → Nat → Int := ce_F 7 11 0x2048401001242008040042240048408040040009200048008200009009
theorem ce_p469 : rk_M 2 ce_m469 := ce_st (b1 := 2) (T := ce_m200) (rem := [(1, 0, 1)]) (rows := [0, 3, 11, 6, 5, 9, 13]) (cols := [0, 14, 5, 11, 8, 20, 3, 7, 16, 12, 19]) (L := [(0, 2, [(5, 6, 4), (5, 7, 5)], [0, 6, 9, 3, 10, 5, 13], [0, 5, 21, 11, 7, 18, 0, 0, 9, 3, 14], ce_m241), (1, 2, [(5, 4, 3), (5, 8, 5)], [0, 2, 10, 7, 4, 8, 12], [0, 0, 4, 10, 0, 16, 2, 6, 0, 13, 18], ce_m200), (4, 2, [], [0, 4, 7, 3, 8, 11, 13], [0, 0, 6, 10, 0, 18, 2, 16, 5, 9, 20], ce_m230), (5, 2, [], [0, 2, 10, 7, 4, 8, 12], [0, 0, 4, 10, 0, 0, 2, 6, 17, 13, 18], ce_m200)]) (by decide +kernel) ce_p200 (ce_pc ce_p241 (ce_pc ce_p200 (ce_pc ce_p230 (ce_pc ce_p200 ce_pn))))
def ce_m470 : Nat → Nat → Int := ce_F 7 11 0x1201409010440409040010210040200240001081200201200200200241
theorem ce_p470 : rk_M 2 ce_m470 := ce_st (b1 := 2) (T := ce_m234) (rem := [(1, 0, 1), (1, 7, 5)]) (rows := [0, 3, 4, 9, 10, 6, 12]) (cols := [0, 8, 10, 20, 3, 13, 14, 0, 5, 19, 17]) (L := [(0, 2, [(5, 5, 3), (5, 8, 7)], [0, 3, 4, 6, 8, 10, 12], [0, 12, 2, 6, 5, 0, 14, 8, 0, 18, 23], ce_m178), (7, 2, [(4, 6, 2), (4, 10, 3)], [0, 3, 4, 6, 8, 10, 12], [0, 12, 14, 23, 5, 7, 0, 0, 9, 18], ce_m178), (3, 2, [(4, 2, 1)], [0, 3, 4, 6, 8, 10, 12], [0, 12, 0, 0, 5, 7, 14, 0, 9, 18, 23], ce_m178), (2, 2, [], [0, 3, 4, 6, 8, 10, 12], [0, 12, 0, 0, 5, 7, 14, 0, 9, 18, 23], ce_m178)]) (by decide +kernel) ce_p234 (ce_pc ce_p178 (ce_pc ce_p178 (ce_pc ce_p178 (ce_pc ce_p178 ce_pn))))
def ce_m471 : Nat → Nat → Int := ce_F 7 11 0x220128020a040051041000288048200048009000240001041000001041
theorem ce_p471 : rk_M 2 ce_m471 := ce_st (b1 := 2) (T := ce_m247) (rem := [(1, 4, 6)]) (rows := [0, 2, 4, 10, 8, 12, 6]) (cols := [8, 2, 21, 6, 0, 4, 10, 12, 14, 18, 17]) (L := [(4, 2, [(4, 6, 0), (5, 10, 2)], [0, 4, 2, 8, 10, 6, 12], [6, 2, 19, 10, 0, 12, 0, 4, 14, 17], ce_m247), (0, 2, [], [0, 2, 4, 10, 8, 12, 6], [0, 2, 11, 6, 0, 4, 8, 12, 14, 18, 17], ce_m305), (2, 2, [], [0, 4, 2, 8, 10, 6, 12], [0, 2, 0, 10, 0, 12, 6, 4, 14, 17, 18], ce_m247)]) (by decide +kernel) ce_p247 (ce_pc ce_p247 (ce_pc ce_p305 (ce_pc ce_p247 ce_pn)))
def ce_m472 : Nat → Nat → Int := ce_F 7 11 0x948104900120101200244040808100800809100000a040200000049
theorem ce_p472 : rk_M 2 ce_m472 := ce_st (b1 := 2) (T := ce_m259) (rem := [(1, 1, 5)]) (rows := [0, 2, 5, 8, 11, 7, 12]) (cols := [12, 0, 15, 4, 6, 3, 16, 19, 20, 10, 9]) (L := [(1, 2, [(5, 4, 2), (5, 5, 0)], [0, 2, 5, 6, 9, 13, 10], [12, 0, 15, 4, 0, 0, 8, 11, 16, 20, 19], ce_m204), (0, 2, [(5, 3, 2)], [0, 2, 5, 6, 9, 13, 10], [0, 0, 5, 0, 14, 13, 8, 11, 16, 20, 19], ce_m204), (2, 2, [], [0, 2, 5, 6, 9, 13, 10], [0, 0, 0, 4, 14, 13, 8, 11, 16, 20, 19], ce_m204)]) (by decide +kernel) ce_p259 (ce_pc ce_p204 (ce_pc ce_p204 (ce_pc ce_p204 ce_pn)))
def ce_m473 : Nat → Nat → Int := ce_F 7 11 0x120804105201004104200900104820020800a048000001240200000049
theorem ce_p473 : rk_M 2 ce_m473 := ce_st (b1 := 2) (T := ce_m262) (rem := [(1, 1, 5)]) (rows := [0, 6, 2, 9, 10, 4, 12]) (cols := [10, 0, 21, 2, 6, 8, 5, 16, 19, 13, 15]) (L := [(1, 2, [(4, 9, 2)], [0, 8, 2, 11, 12, 6, 4], [20, 0, 16, 4, 8, 12, 7, 2, 15, 0, 18], ce_m241), (2, 2, [(4, 5, 0)], [0, 6, 10, 9, 2, 13, 4], [4, 0, 0, 22, 8, 0, 25, 16, 7, 12, 10], ce_m153), (0, 2, [], [0, 6, 10, 9, 2, 13, 4], [0, 0, 0, 22, 8, 4, 25, 16, 7, 12, 10], ce_m153)]) (by decide +kernel) ce_p262 (ce_pc ce_p241 (ce_pc ce_p153 (ce_pc ce_p153 ce_pn)))
def ce_m474 : Nat → Nat → Int := ce_F 7 11 0x1052001202012088048402008040201048040248000048040200000049
theorem ce_p474 : rk_M 2 ce_m474 := ce_st (b1 := 2) (T := ce_m198) (rem := []) (rows := [0, 5, 3, 7, 10, 8, 12]) (cols := [9, 19, 20, 3, 7, 5, 11, 13, 15, 17, 22]) (L := [(0, 2, [(5, 6, 2), (5, 7, 1)], [0, 4, 2, 6, 11, 9, 13], [0, 13, 11, 2, 6, 4, 0, 0, 14, 16, 23], ce_m198), (2, 2, [(4, 9, 1)], [0, 4, 2, 6, 11, 9, 13], [0, 16, 0, 2, 6, 4, 10, 12, 14, 0, 23], ce_m198), (1, 2, [], [0, 4, 2, 6, 11, 9, 13], [0, 0, 0, 2, 6, 4, 10, 12, 14, 16, 23], ce_m198)]) (by decide +kernel) ce_p198 (ce_pc ce_p198 (ce_pc ce_p198 (ce_pc ce_p198 ce_pn)))
def ce_m475 : Nat → Nat → Int := ce_F 7 11 0x1288011001409008040281008000049040201001040200041200200049
theorem ce_p475 : rk_M 2 ce_m475 := ce_st (b1 := 2) (T := ce_m156) (rem := [(4, 9, 2), (4, 10, 7)]) (rows := [0, 4, 2, 12, 7, 10, 8]) (cols := [4, 18, 6, 16, 21, 24, 2, 11, 12]) (L := [(0, 2, [(5, 8, 2)], [0, 3, 5, 11, 8, 6, 12], [0, 14, 4, 7, 16, 12, 9, 2, 0, 11, 18], ce_m276), (7, 2, [(4, 3, 1), (4, 6, 2)], [0, 3, 5, 9, 12, 6, 10], [0, 7, 19, 0, 23, 10, 0, 0, 3, 15, 24], ce_m156), (1, 2, [], [0, 5, 2, 9, 7, 10, 12], [0, 0, 4, 7, 13, 17, 2, 0, 11, 8, 15], ce_m341), (2, 2, [], [0, 3, 5, 9, 12, 6, 10], [0, 0, 0, 7, 23, 10, 19, 0, 3, 15, 24], ce_m156)]) (by decide +kernel) ce_p156 (ce_pc ce_p276 (ce_pc ce_p156 (ce_pc ce_p341 (ce_pc ce_p156 ce_pn))))
def ce_m476 : Nat → Nat → Int := ce_F 7 11 0x2488040010012088048440008248040008081040200041040208000049
theorem ce_p476 : rk_M 2 ce_m476 := ce_st (b1 := 2) (T := ce_m180) (rem := [(1, 2, 5)]) (rows := [0, 4, 10, 6, 12, 3, 9]) (cols := [10, 22, 0, 2, 13, 4, 8, 16, 14, 20, 6]) (L := [(2, 2, [(4, 5, 0), (4, 6, 1), (4, 10, 9)], [0, 8, 11, 13, 3, 4, 6], [17, 3, 0, 11, 13, 0, 0, 4, 18, 7], ce_m172), (0, 2, [(5, 9, 7)], [0, 4, 9, 2, 13, 7, 11], [0, 3, 0, 10, 13, 4, 20, 18, 6, 0, 8], ce_m224), (1, 2, [(4, 9, 8)], [0, 8, 11, 13, 3, 4, 6], [0, 0, 0, 11, 13, 17, 3, 4, 18, 0, 7], ce_m172), (9, 2, [], [0, 8, 11, 13, 3, 4, 6], [0, 0, 0, 11, 13, 17, 3, 4, 18, 0, 7], ce_m172)]) (by decide +kernel) ce_p180 (ce_pc ce_p172 (ce_pc ce_p224 (ce_pc ce_p172 (ce_pc ce_p172 ce_pn))))
def ce_m477 : Nat → Nat → Int := ce_F 7 11 0x452408010082240040088088040040440009001040200041200001209
theorem ce_p477 : rk_M 2 ce_m477 := ce_st (b1 := 2) (T := ce_m267) (rem := [(1, 4, 5)]) (rows := [0, 5, 3, 6, 10, 8, 12]) (cols := [3, 7, 5, 13, 0, 8, 17, 11, 19, 20, 15]) (L := [(4, 2, [(4, 8, 3)], [0, 5, 10, 6, 12, 9, 3], [11, 15, 21, 5, 0, 12, 16, 8, 0, 2, 22], ce_m173), (0, 2, [(0, 1, 8), (5, 2, 1), (5, 7, 3), (1, 8, 6)], [0, 0, 3, 8, 4, 10, 6], [0, 2, 0, 6, 0, 20, 5, 0, 0, 17, 14], ce_m52), (1, 2, [(0, 1, 8), (5, 5, 3), (1, 8, 6)], [0, 0, 3, 8, 4, 10, 6], [0, 0, 3, 21, 0, 0, 5, 7, 0, 17, 14], ce_m52), (3, 2, [(0, 1, 8), (1, 8, 6)], [0, 0, 3, 8, 4, 10, 6], [0, 0, 3, 0, 0, 20, 5, 7, 0, 17, 14], ce_m52)]) (by decide +kernel) ce_p267 (ce_pc ce_p173 (ce_pc ce_p52 (ce_pc ce_p52 (ce_pc ce_p52 ce_pn))))
def ce_m478 : Nat → Nat → Int := ce_F 7 11 0x209040800a048008088400208208010240001009200041200200000249
theorem ce_p478 : rk_M 2 ce_m478 := ce_st (b1 := 2) (T := ce_m273) (rem := [(1, 0, 1)]) (rows := [0, 3, 4, 8, 12, 11, 6]) (cols := [0, 14, 12, 10, 5, 3, 8, 7, 17, 18, 21]) (L := [(0, 2, [], [0, 12, 3, 9, 7, 5, 11], [0, 7, 5, 9, 18, 20, 3, 17, 13, 10, 15], ce_m231), (1, 2, [(0, 2, 6), (1, 6, 5), (5, 8, 3), (5, 9, 2), (3, 5, 4), (1, 2, 4)], [0, 3, 0, 4, 6, 0, 8], [0, 0, 0, 15, 3, 9, 0, 7, 0, 0, 12], ce_m16), (2, 2, [(0, 2, 6), (1, 6, 5), (5, 10, 3), (3, 5, 4), (1, 9, 4)], [0, 3, 0, 4, 6, 0, 8], [0, 0, 0, 13, 3, 9, 0, 7, 14], ce_m16), (3, 2, [(0, 2, 6), (1, 6, 5), (3, 5, 4), (1, 9, 4)], [0, 3, 0, 4, 6, 0, 8], [0, 0, 0, 0, 3, 9, 0, 7, 14, 0, 12], ce_m16)]) (by decide +kernel) ce_p273 (ce_pc ce_p231 (ce_pc ce_p16 (ce_pc ce_p16 (ce_pc ce_p16 ce_pn))))
def ce_m479 : Nat → Nat → Int := ce_F 7 11 0x108808820140a001202240008080411002010400040201208000000249
theorem ce_p479 : rk_M 2 ce_m479 := ce_st (b1 := 2) (T := ce_m264) (rem := [(1, 2, 1)]) (rows := [0, 3, 4, 6, 8, 10, 12]) (cols := [12, 20, 0, 14, 7, 3, 8, 10, 5, 16, 18]) (L := [(2, 2, [(5, 4, 3), (5, 5, 0), (5, 8, 1)], [0, 3, 10, 8, 12, 4, 6], [2, 6, 0, 4, 0, 0, 16, 19, 0, 10, 13], ce_m172), (0, 2, [(4, 7, 1)], [0, 7, 9, 13, 2, 4, 10], [0, 6, 0, 15, 21, 11, 4, 0, 3, 16, 18], ce_m223), (3, 2, [(4, 6, 1)], [0, 3, 10, 8, 12, 4, 6], [0, 16, 0, 0, 5, 3, 0, 19, 7, 10, 13], ce_m172), (1, 2, [], [0, 3, 10, 8, 12, 4, 6], [0, 0, 0, 0, 5, 3, 16, 19, 7, 10, 13], ce_m172)]) (by decide +kernel) ce_p264 (ce_pc ce_p172 (ce_pc ce_p223 (ce_pc ce_p172 (ce_pc ce_p172 ce_pn))))
def ce_m480 : Nat → Nat → Int := ce_F 7 11 0x2088411012009400208010440008050009000048200040009200040049
theorem ce_p480 : rk_M 2 ce_m480 := ce_st (b1 := 2) (T := ce_m267) (rem := [(1, 6, 5)]) (rows := [0, 5, 3, 6, 8, 10, 12]) (cols := [7, 3, 13, 11, 5, 8, 0, 19, 20, 14, 17]) (L := [(6, 2, [], [0, 3, 7, 5, 8, 10, 12], [5, 3, 11, 9, 6, 13, 0, 15, 17, 19, 21], ce_m263), (1, 2, [(0, 1, 7), (5, 3, 2), (5, 4, 0), (1, 7, 6)], [0, 0, 3, 8, 10, 4, 6], [2, 0, 6, 0, 0, 20, 0, 0, 17, 15, 5], ce_m52), (0, 2, [(0, 1, 7), (5, 5, 2), (1, 7, 6)], [0, 0, 3, 8, 10, 4, 6], [0, 0, 21, 7, 3, 0, 0, 0, 17, 15, 5], ce_m52), (2, 2, [(0, 1, 7), (1, 7, 6)], [0, 0, 3, 8, 10, 4, 6], [0, 0, 0, 7, 3, 20, 0, 0, 17, 15, 5], ce_m52)]) (by decide +kernel) ce_p267 (ce_pc ce_p263 (ce_pc ce_p52 (ce_pc ce_p52 (ce_pc ce_p52 ce_pn))))
def ce_m481 : Nat → Nat → Int := ce_F 7 11 0x2080052209010408008208408041000248049200000000048200001009
theorem ce_p481 : rk_M 2 ce_m481 := ce_st (b1 := 2) (T := ce_m192) (rem := [(5, 10, 4)]) (rows := [0, 4, 9, 6, 10, 2, 13]) (cols := [6, 20, 2, 12, 15, 17, 5, 18, 22, 8]) (L := [(0, 2, [(5, 3, 1), (5, 4, 2)], [0, 4, 8, 2, 12, 10, 7], [0, 15, 4, 0, 0, 22, 20, 6, 10, 8, 18], ce_m155), (4, 2, [(4, 9, 1)], [0, 4, 8, 2, 12, 10, 7], [0, 8, 4, 14, 0, 22, 20, 6, 10, 0, 18], ce_m155), (1, 2, [], [0, 4, 8, 2, 12, 10, 7], [0, 0, 4, 14, 0, 22, 20, 6, 10, 8, 18], ce_m155)]) (by decide +kernel) ce_p192 (ce_pc ce_p155 (ce_pc ce_p155 (ce_pc ce_p155 ce_pn)))
def ce_m482 : Nat → Nat → Int := ce_F 7 11 0x140140020a400240042201040041002200041000240001240200001049
theorem ce_p482 : rk_M 2 ce_m482 := ce_st (b1 := 2) (T := ce_m156) (rem := [(4, 6, 1), (4, 7, 2)]) (rows := [0, 6, 13, 4, 2, 10, 8]) (cols := [20, 22, 4, 15, 2, 10, 0, 0, 9, 12, 6]) (L := [(0, 2, [(5, 5, 1), (5, 8, 4)], [0, 11, 7, 2, 4, 13, 9], [0, 21, 4, 9, 14, 0, 11, 2, 0, 6, 16], ce_m155), (1, 2, [], [0, 4, 6, 3, 13, 8, 10], [0, 0, 5, 2, 6, 10, 12, 9, 19, 15, 20], ce_m228), (2, 2, [(4, 4, 3)], [0, 7, 5, 3, 12, 8, 10], [0, 0, 0, 2, 0, 15, 18, 20, 25, 23, 4], ce_m149), (4, 2, [], [0, 7, 5, 3, 12, 8, 10], [0, 0, 0, 2, 0, 15, 18, 20, 25, 23, 4], ce_m149)]) (by decide +kernel) ce_p156 (ce_pc ce_p155 (ce_pc ce_p228 (ce_pc ce_p149 (ce_pc ce_p149 ce_pn))))
def ce_m483 : Nat → Nat → Int := ce_F 7 11 0x145001000800a208051001008001009040000049201008008201008009
theorem ce_p483 : rk_M 2 ce_m483 := ce_st (b1 := 2) (T := ce_m180) (rem := [(1, 0, 1), (1, 5, 5)]) (rows := [0, 4, 6, 8, 12, 2, 10]) (cols := [0, 20, 4, 14, 6, 0, 2, 12, 22, 18, 8]) (L := [(0, 2, [(5, 6, 5), (5, 9, 8)], [0, 12, 2, 10, 6, 4, 9], [0, 8, 4, 6, 2, 17, 0, 18, 12, 0, 10], ce_m223), (5, 2, [(4, 4, 1), (4, 10, 8)], [0, 2, 4, 6, 9, 10, 13], [0, 12, 4, 14, 0, 0, 8, 18, 22, 6], ce_m178), (8, 2, [(4, 3, 1)], [0, 2, 4, 6, 9, 10, 13], [0, 14, 4, 0, 12, 0, 8, 18, 0, 6, 22], ce_m178), (1, 2, [], [0, 2, 4, 6, 9, 10, 13], [0, 0, 4, 14, 12, 0, 8, 18, 0, 6, 22], ce_m178)]) (by decide +kernel) ce_p180 (ce_pc ce_p223 (ce_pc ce_p178 (ce_pc ce_p178 (ce_pc ce_p178 ce_pn))))
def ce_m484 : Nat → Nat → Int := ce_F 7 11 0x452001049048001041000049088090000002211000080240200000049
theorem ce_p484 : rk_M 2 ce_m484 := ce_st (b1 := 2) (T := ce_m285) (rem := [(4, 10, 1)]) (rows := [0, 2, 5, 7, 8, 10, 12]) (cols := [10, 6, 18, 4, 2, 9, 12, 20, 16, 14]) (L := [(1, 2, [(5, 6, 2), (5, 7, 0)], [0, 8, 12, 6, 5, 3, 10], [6, 0, 8, 22, 11, 21, 0, 0, 15, 3, 5], ce_m156), (0, 2, [(5, 3, 2)], [0, 8, 12, 6, 5, 3, 10], [0, 0, 23, 0, 11, 21, 9, 7, 15, 3, 5], ce_m156), (2, 2, [], [0, 8, 12, 6, 5, 3, 10], [0, 0, 0, 22, 11, 21, 9, 7, 15, 3, 5], ce_m156)]) (by decide +kernel) ce_p285 (ce_pc ce_p156 (ce_pc ce_p156 (ce_pc ce_p156 ce_pn)))
def ce_m485 : Nat → Nat → Int := ce_F 7 11 0x1240048050090088000202288040048208089200000000208200000209
theorem ce_p485 : rk_M 2 ce_m485 := ce_st (b1 := 2) (T := ce_m270) (rem := [(1, 1, 4)]) (rows := [0, 2, 7, 8, 5, 10, 12]) (cols := [6, 0, 2, 15, 4, 10, 13, 9, 16, 18, 21]) (L := [(1, 2, [(4, 4, 0), (4, 10, 3)], [0, 5, 10, 13, 2, 9, 7], [5, 0, 7, 9, 0, 22, 18, 12, 11, 17], ce_m205), (0, 2, [(5, 3, 2)], [0, 5, 10, 13, 2, 9, 7], [0, 0, 7, 0, 5, 22, 18, 12, 11, 17, 9], ce_m205), (3, 2, [], [0, 5, 10, 13, 2, 9, 7], [0, 0, 7, 0, 5, 22, 18, 12, 11, 17, 9], ce_m205)]) (by decide +kernel) ce_p270 (ce_pc ce_p205 (ce_pc ce_p205 (ce_pc ce_p205 ce_pn)))
def ce_m486 : Nat → Nat → Int := ce_F 7 11 0x141005000021128005000108820800a00000800a201008008200009009
theorem ce_p486 : rk_M 2 ce_m486 := ce_st (b1 := 2) (T := ce_m320) (rem := [(1, 0, 1), (1, 5, 5)]) (rows := [0, 3, 6, 8, 10, 4, 12]) (cols := [0, 14, 5, 11, 12, 0, 3, 16, 8, 7, 18]) (L := [(0, 2, [(5, 2, 1), (5, 6, 5)], [0, 3, 12, 4, 8, 6, 10], [0, 12, 0, 17, 2, 4, 0, 21, 8, 11, 14], ce_m169), (5, 2, [(4, 10, 4)], [0, 8, 4, 7, 12, 3, 11], [0, 10, 13, 8, 23, 0, 6, 16, 5, 24], ce_m153), (1, 2, [(5, 4, 3)], [0, 9, 5, 6, 13, 2, 10], [0, 0, 12, 9, 0, 0, 7, 17, 4, 25, 22], ce_m153), (4, 2, [], [0, 9, 5, 6, 13, 2, 10], [0, 0, 12, 9, 0, 0, 7, 17, 4, 25, 22], ce_m153)]) (by decide +kernel) ce_p320 (ce_pc ce_p169 (ce_pc ce_p153 (ce_pc ce_p153 (ce_pc ce_p153 ce_pn))))
def ce_m487 : Nat → Nat → Int := ce_F 7 11 0x2450088001451000008001048008001048001041200001041240200081
theorem ce_p487 : rk_M 2 ce_m487 := ce_st (b1 := 2) (T := ce_m282) (rem := [(1, 10, 6)]) (rows := [0, 2, 4, 6, 8, 12, 10]) (cols := [2, 4, 6, 8, 10, 12, 14, 21, 16, 18]) (L := [(10, 2, [(4, 3, 0), (4, 4, 2), (1, 7, 5)], [0, 6, 10, 4, 2, 8, 13], [14, 4, 8, 0, 0, 10, 21, 0, 16, 6], ce_m155), (0, 2, [(4, 2, 1)], [0, 7, 3, 9, 5, 12, 10], [0, 3, 0, 11, 5, 15, 7, 12, 17, 9], ce_m338), (2, 2, [], [0, 2, 6, 4, 8, 12, 10], [0, 2, 0, 4, 10, 6, 14, 12, 8, 16], ce_m338), (7, 2, [], [0, 6, 10, 4, 2, 8, 13], [0, 4, 0, 14, 8, 10, 21, 0, 16, 6], ce_m155)]) (by decide +kernel) ce_p282 (ce_pc ce_p155 (ce_pc ce_p338 (ce_pc ce_p338 (ce_pc ce_p155 ce_pn))))
def ce_m488 : Nat → Nat → Int := ce_F 7 11 0x2409040208209010011041008240041008009202000000248000000009
theorem ce_p488 : rk_M 2 ce_m488 := ce_st (b1 := 2) (T := ce_m279) (rem := [(1, 0, 3)]) (rows := [0, 2, 7, 4, 10, 9, 12]) (cols := [0, 20, 4, 2, 6, 8, 11, 17, 19, 14, 12]) (L := [(0, 2, [(5, 9, 1)], [0, 4, 6, 2, 8, 10, 12], [0, 11, 12, 6, 8, 2, 4, 14, 16, 0, 18], ce_m252), (1, 2, [], [0, 4, 6, 2, 8, 10, 12], [0, 0, 12, 6, 8, 2, 4, 14, 16, 10, 18], ce_m252)]) (by decide +kernel) ce_p279 (ce_pc ce_p252 (ce_pc ce_p252 ce_pn))
def ce_m489 : Nat → Nat → Int := ce_F 7 11 0x1082240002401041040209001049000208049000040000448000008009
theorem ce_p489 : rk_M 2 ce_m489 := ce_st (b1 := 2) (T := ce_m278) (rem := [(1, 1, 5), (4, 7, 0)]) (rows := [0, 3, 5, 7, 12, 9, 10]) (cols := [11, 0, 3, 5, 6, 21, 9, 0, 13, 17, 18]) (L := [(1, 2, [(4, 10, 5)], [0, 3, 10, 12, 6, 5, 8], [6, 0, 17, 3, 4, 8, 21, 14, 12, 18], ce_m256), (0, 2, [(5, 8, 5)], [0, 3, 10, 12, 6, 5, 8], [0, 0, 17, 3, 4, 13, 21, 14, 0, 18, 8], ce_m256), (5, 2, [], [0, 3, 10, 12, 6, 5, 8], [0, 0, 17, 3, 4, 0, 21, 14, 12, 18, 8], ce_m256)]) (by decide +kernel) ce_p278 (ce_pc ce_p256 (ce_pc ce_p256 (ce_pc ce_p256 ce_pn)))
def ce_m490 : Nat → Nat → Int := ce_F 7 11 0x1080091209040401008040209009440000000201240000240200000049
theorem ce_p490 : rk_M 2 ce_m490 := ce_st (b1 := 2) (T := ce_m211) (rem := []) (rows := [0, 3, 5, 7, 9, 10, 12]) (cols := [3, 15, 17, 5, 7, 9, 11, 13, 19, 21, 22]) (L := [(2, 2, [(0, 2, 5), (4, 3, 0), (1, 5, 3), (4, 9, 1)], [0, 11, 0, 7, 9, 4, 2], [9, 12, 0, 0, 7, 0, 14, 10, 5, 0, 2], ce_m51), (0, 2, [(0, 2, 5), (5, 4, 1), (1, 5, 3)], [0, 11, 0, 7, 9, 4, 2], [0, 6, 0, 9, 0, 0, 14, 10, 5, 12, 2], ce_m51), (1, 2, [(0, 2, 5), (1, 5, 3)], [0, 11, 0, 7, 9, 4, 2], [0, 0, 0, 9, 7, 0, 14, 10, 5, 12, 2], ce_m51)]) (by decide +kernel) ce_p211 (ce_pc ce_p51 (ce_pc ce_p51 (ce_pc ce_p51 ce_pn)))
def ce_m491 : Nat → Nat → Int := ce_F 7 11 0x2249200008010240000248008041008400040209000001240200048009
theorem ce_p491 : rk_M 2 ce_m491 := ce_st (b1 := 2) (T := ce_m326) (rem := [(1, 0, 1), (1, 1, 4)]) (rows := [0, 2, 6, 10, 4, 8, 12]) (cols := [0, 0, 12, 4, 6, 2, 8, 10, 14, 18, 17]) (L := [(0, 2, [], [0, 3, 7, 11, 4, 9, 12], [0, 2, 11, 5, 13, 8, 6, 14, 17, 23, 21], ce_m202), (1, 2, [(0, 4, 7), (4, 9, 7), (5, 10, 6)], [0, 10, 2, 7, 0, 8, 4], [0, 0, 4, 8, 17, 6, 12, 10, 2], ce_m51), (6, 2, [(0, 4, 7), (4, 5, 3), (4, 9, 7)], [0, 10, 2, 7, 0, 8, 4], [0, 0, 4, 8, 17, 0, 0, 10, 2, 0, 13], ce_m51), (5, 2, [(0, 4, 7), (4, 9, 7)], [0, 10, 2, 7, 0, 8, 4], [0, 0, 4, 8, 17, 0, 0, 10, 2, 0, 13], ce_m51)]) (by decide +kernel) ce_p326 (ce_pc ce_p202 (ce_pc ce_p51 (ce_pc ce_p51 (ce_pc ce_p51 ce_pn))))
def ce_m492 : Nat → Nat → Int := ce_F 7 11 0x1280081008408009008208041202011000401040200201040200000049
theorem ce_p492 : rk_M 2 ce_m492 := ce_st (b1 := 2) (T := ce_m156) (rem := [(4, 5, 0), (4, 6, 1)]) (rows := [0, 13, 4, 6, 8, 2, 10]) (cols := [22, 4, 6, 20, 14, 0, 0, 11, 9, 13, 2]) (L := [(0, 2, [(5, 8, 2)], [0, 6, 3, 8, 10, 5, 12], [0, 5, 15, 10, 7, 18, 3, 21, 0, 8, 17], ce_m155), (1, 2, [(4, 9, 2)], [0, 6, 3, 8, 10, 5, 12], [0, 0, 8, 10, 7, 18, 3, 21, 14, 0, 17], ce_m155), (2, 2, [], [0, 6, 3, 8, 10, 5, 12], [0, 0, 0, 10, 7, 18, 3, 21, 14, 8, 17], ce_m155)]) (by decide +kernel) ce_p156 (ce_pc ce_p155 (ce_pc ce_p155 (ce_pc ce_p155 ce_pn)))
def ce_m493 : Nat → Nat → Int := ce_F 7 11 0x490248010081041040201041041400200041000240001208000000209
theorem ce_p493 : rk_M 2 ce_m493 := ce_st (b1 := 2) (T := ce_m211) (rem := []) (rows := [0, 2, 7, 4, 8, 10, 12]) (cols := [10, 13, 2, 22, 4, 6, 9, 14, 19, 16, 20]) (L := [(0, 2, [(5, 10, 1)], [0, 6, 5, 2, 10, 8, 12], [0, 19, 2, 12, 20, 8, 5, 10, 17, 14], ce_m263), (1, 2, [(5, 8, 3)], [0, 10, 5, 7, 13, 8, 2], [0, 0, 21, 4, 16, 8, 7, 13, 0, 3, 23], ce_m173), (3, 2, [], [0, 10, 5, 7, 13, 8, 2], [0, 0, 21, 0, 16, 8, 7, 13, 5, 3, 23], ce_m173)]) (by decide +kernel) ce_p211 (ce_pc ce_p263 (ce_pc ce_p173 (ce_pc ce_p173 ce_pn)))
def ce_m494 : Nat → Nat → Int := ce_F 7 11 0x24920020a402008040240048010411000410040040001041200000048
theorem ce_p494 : rk_M 2 ce_m494 := ce_st (b1 := 2) (T := ce_m285) (rem := [(4, 10, 2)]) (rows := [0, 2, 4, 6, 8, 10, 12]) (cols := [4, 10, 6, 2, 8, 21, 16, 18, 15, 13]) (L := [(2, 2, [(4, 5, 1)], [0, 12, 7, 9, 5, 3, 10], [21, 8, 0, 23, 11, 0, 13, 15, 6, 2, 5], ce_m156), (1, 2, [], [0, 12, 7, 9, 5, 3, 10], [21, 0, 0, 23, 11, 8, 13, 15, 6, 2, 5], ce_m156)]) (by decide +kernel) ce_p285 (ce_pc ce_p156 (ce_pc ce_p156 ce_pn))
def ce_m495 : Nat → Nat → Int := ce_F 7 11 0x1212008009200048040091000042040008049001000000209200000248
theorem ce_p495 : rk_M 2 ce_m495 := ce_st (b1 := 2) (T := ce_m290) (rem := [(1, 1, 1)]) (rows := [0, 2, 8, 4, 6, 10, 13]) (cols := [2, 0, 4, 20, 6, 8, 10, 12, 14, 16, 18]) (L := [(1, 2, [(4, 8, 2)], [0, 13, 4, 6, 8, 2, 10], [20, 0, 4, 8, 22, 10, 12, 14, 0, 2, 6], ce_m156), (3, 2, [], [0, 13, 3, 6, 8, 5, 10], [20, 0, 9, 0, 22, 10, 7, 3, 5, 15, 13], ce_m156), (2, 2, [], [0, 13, 3, 6, 8, 5, 10], [20, 0, 0, 0, 22, 10, 7, 3, 5, 15, 13], ce_m156)]) (by decide +kernel) ce_p290 (ce_pc ce_p156 (ce_pc ce_p156 (ce_pc ce_p156 ce_pn)))
def ce_m496 : Nat → Nat → Int := ce_F 7 11 0x1489200001280040008012040008408009008001040009041000000049
theorem ce_p496 : rk_M 2 ce_m496 := ce_st (b1 := 2) (T := ce_m156) (rem := [(1, 1, 1)]) (rows := [0, 5, 12, 7, 9, 3, 10]) (cols := [21, 0, 23, 5, 11, 13, 15, 8, 3, 7, 24]) (L := [(1, 2, [], [0, 5, 12, 7, 9, 3, 10], [18, 0, 16, 5, 11, 13, 15, 8, 3, 7, 24], ce_m156), (0, 2, [(5, 4, 2)], [0, 5, 12, 7, 9, 3, 10], [0, 0, 10, 5, 0, 13, 15, 8, 3, 7, 24], ce_m156), (2, 2, [], [0, 5, 12, 7, 9, 3, 10], [0, 0, 0, 5, 11, 13, 15, 8, 3, 7, 24], ce_m156)]) (by decide +kernel) ce_p156 (ce_pc ce_p156 (ce_pc ce_p156 (ce_pc ce_p156 ce_pn)))
def ce_m497 : Nat → Nat → Int := ce_F 7 11 0x120a001008402009009002200200080240008240040008041200000049
theorem ce_p497 : rk_M 2 ce_m497 := ce_st (b1 := 2) (T := ce_m165) (rem := [(4, 10, 2)]) (rows := [0, 2, 8, 4, 12, 6, 11]) (cols := [4, 2, 12, 8, 22, 11, 6, 20, 19, 25]) (L := [(0, 2, [(5, 5, 1)], [0, 5, 13, 2, 7, 8, 10], [0, 6, 2, 9, 19, 0, 11, 22, 13, 14, 4], ce_m213), (1, 2, [(5, 6, 2)], [0, 8, 4, 3, 12, 7, 11], [0, 0, 21, 22, 14, 2, 0, 12, 18, 25, 5], ce_m158), (2, 2, [], [0, 8, 4, 3, 12, 7, 11], [0, 0, 0, 22, 14, 2, 20, 12, 18, 25, 5], ce_m158)]) (by decide +kernel) ce_p165 (ce_pc ce_p213 (ce_pc ce_p158 (ce_pc ce_p158 ce_pn)))
def ce_m498 : Nat → Nat → Int := ce_F 7 11 0x1289001008041400008041400010081200052000200049000200000049
theorem ce_p498 : rk_M 2 ce_m498 := ce_st (b1 := 2) (T := ce_m194) (rem := [(1, 0, 1), (1, 1, 2)]) (rows := [0, 6, 5, 11, 9, 2, 12]) (cols := [0, 0, 22, 16, 5, 8, 10, 2, 13, 20, 14]) (L := [(0, 2, [], [0, 11, 9, 7, 2, 5, 12], [0, 15, 17, 5, 2, 7, 8, 11, 12, 18, 21], ce_m272), (1, 2, [(5, 8, 2)], [0, 6, 5, 11, 9, 2, 12], [0, 0, 12, 16, 5, 8, 10, 2, 0, 20, 14], ce_m194), (2, 2, [], [0, 6, 5, 11, 9, 2, 12], [0, 0, 0, 16, 5, 8, 10, 2, 13, 20, 14], ce_m194)]) (by decide +kernel) ce_p194 (ce_pc ce_p272 (ce_pc ce_p194 (ce_pc ce_p194 ce_pn)))
def ce_m499 : Nat → Nat → Int := ce_F 7 11 0x1240008241200209008410200009400009001200200000440200000048
theorem ce_p499 : rk_M 2 ce_m499 := ce_st (b1 := 2) (T := ce_m156) (rem := [(1, 2, 5)]) (rows := [0, 5, 12, 6, 8, 2, 10]) (cols := [15, 8, 0, 13, 4, 23, 21, 10, 2, 6, 24]) (L := [(2, 2, [(4, 10, 1)], [0, 2, 12, 6, 8, 5, 10], [2, 24, 0, 6, 5, 23, 21, 10, 15, 13], ce_m156), (1, 2, [], [0, 2, 12, 6, 8, 5, 10], [2, 0, 0, 6, 5, 23, 21, 10, 15, 13, 24], ce_m156)]) (by decide +kernel) ce_p156 (ce_pc ce_p156 (ce_pc ce_p156 ce_pn))
def ce_m500 : Nat → Nat → Int := ce_F 7 11 0x2490001000250200000442200201080040001408201201000200000049
theorem ce_p500 : rk_M 2 ce_m500 := ce_st (b1 := 2) (T := ce_m331) (rem := [(1, 0, 1), (1, 2, 6)]) (rows := [0, 3, 6, 8, 12, 11, 4]) (cols := [0, 10, 0, 12, 15, 7, 16, 19, 5, 3, 9]) (L := [(0, 2, [(5, 5, 1), (5, 9, 2)], [0, 13, 2, 8, 10, 5, 6], [0, 6, 18, 8, 17, 0, 4, 13, 15, 0, 11], ce_m178), (2, 2, [], [0, 8, 3, 7, 11, 4, 12], [0, 7, 0, 13, 14, 4, 3, 10, 8, 20, 19], ce_m185), (1, 2, [], [0, 13, 2, 8, 10, 5, 6], [0, 0, 0, 8, 17, 7, 4, 13, 15, 19, 11], ce_m178)]) (by decide +kernel) ce_p331 (ce_pc ce_p178 (ce_pc ce_p185 (ce_pc ce_p178 ce_pn)))
def ce_m501 : Nat → Nat → Int := ce_F 7 11 0x1289040008042040008048001008011008009041000000041200001048
theorem ce_p501 : rk_M 2 ce_m501 := ce_st (b1 := 2) (T := ce_m330) (rem := [(1, 1, 1), (1, 2, 2)]) (rows := [0, 3, 4, 7, 9, 11, 12]) (cols := [3, 0, 0, 7, 4, 13, 10, 8, 15, 18, 16]) (L := [(1, 2, [], [0, 3, 4, 9, 7, 11, 12], [5, 0, 2, 13, 6, 11, 8, 14, 21, 17, 23], ce_m202), (2, 2, [(5, 8, 4)], [0, 3, 4, 11, 7, 9, 12], [3, 0, 0, 7, 24, 11, 18, 16, 0, 21, 23], ce_m156), (4, 2, [], [0, 3, 4, 11, 7, 9, 12], [3, 0, 0, 7, 0, 11, 18, 16, 25, 21, 23], ce_m156)]) (by decide +kernel) ce_p330 (ce_pc ce_p202 (ce_pc ce_p156 (ce_pc ce_p156 ce_pn)))
def ce_m502 : Nat → Nat → Int := ce_F 7 11 0x148004104108800040120a000200240200240008200000240200000048
theorem ce_p502 : rk_M 2 ce_m502 := ce_st (b1 := 2) (T := ce_m156) (rem := [(1, 1, 2), (4, 10, 2)]) (rows := [0, 2, 4, 12, 7, 9, 10]) (cols := [6, 0, 24, 4, 2, 21, 23, 11, 14, 12]) (L := [(1, 2, [], [0, 5, 3, 12, 7, 9, 10], [13, 0, 8, 5, 15, 21, 23, 11, 3, 7, 24], ce_m156), (2, 2, [], [0, 2, 4, 12, 7, 9, 10], [6, 0, 0, 4, 2, 21, 23, 11, 14, 12, 24], ce_m156)]) (by decide +kernel) ce_p156 (ce_pc ce_p156 (ce_pc ce_p156 ce_pn))
def ce_m503 : Nat → Nat → Int := ce_F 7 11 0x1488000008000441008010009008241000009040040001048000001041
theorem ce_p503 : rk_M 2 ce_m503 := ce_st (b1 := 2) (T := ce_m165) (rem := [(1, 2, 1)]) (rows := [0, 5, 10, 7, 2, 8, 13]) (cols := [6, 4, 0, 11, 21, 3, 17, 24, 19, 8, 22]) (L := [(2, 2, [], [0, 8, 3, 7, 11, 12, 5], [7, 19, 0, 25, 9, 23, 5, 3, 10, 12, 15], ce_m164), (0, 2, [(5, 4, 1)], [0, 2, 9, 6, 5, 10, 13], [0, 13, 0, 4, 0, 2, 16, 23, 18, 15, 24], ce_m158), (4, 2, [], [0, 2, 9, 6, 5, 10, 13], [0, 13, 0, 4, 0, 2, 16, 23, 18, 15, 24], ce_m158)]) (by decide +kernel) ce_p165 (ce_pc ce_p164 (ce_pc ce_p158 (ce_pc ce_p158 ce_pn)))
def ce_m504 : Nat → Nat → Int := ce_F 7 11 0x2202040008280000209008200001240040000050240000048000000048
theorem ce_p504 : rk_M 2 ce_m504 := ce_st (b1 := 1) (T := ce_m49) (rem := [(1, 2, 1), (0, 1, 3)]) (rows := [0, 0, 2, 4, 7, 8, 10]) (cols := [2, 6, 0, 5, 8, 14, 10, 12, 19, 17, 20]) (L := [(2, 2, [], [0, 5, 6, 2, 8, 11, 13], [16, 2, 0, 11, 18, 4, 8, 6, 20, 22, 25], ce_m165), (1, 1, [(0, 1, 3)], [0, 0, 5, 10, 2, 6, 8], [15, 0, 0, 6, 13, 8, 21, 17, 4, 2, 18], ce_m49)]) (by decide +kernel) ce_p49 (ce_pc ce_p165 (ce_pc ce_p49 ce_pn))
def ce_m505 : Nat → Nat → Int := ce_F 7 10 0x145220024804120920020908a202041040048008200240002281
theorem ce_p505 : rk_M 2 ce_m505 := ce_st (b1 := 2) (T := ce_m221) (rem := []) (rows := [0, 2, 4, 10, 6, 8, 13]) (cols := [2, 4, 6, 18, 20, 8, 10, 12, 14, 16]) (L := [(3, 2, [(2, 5, 4), (3, 6, 3), (1, 4, 4), (4, 5, 0), (4, 8, 2), (1, 9, 4)], [0, 2, 9, 6, 5], [8, 7, 15, 0, 0, 0, 17, 2], ce_m14), (4, 2, [(2, 5, 4), (3, 6, 3), (4, 6, 2), (4, 7, 0), (1, 9, 4)], [0, 2, 9, 6, 5], [2, 7, 17, 0, 0, 8, 0, 0, 15], ce_m14), (0, 2, [(2, 5, 4), (3, 6, 3), (4, 2, 1), (1, 9, 4)], [0, 2, 9, 6, 5], [0, 7, 0, 0, 0, 8, 17, 2, 15], ce_m14), (2, 2, [(2, 5, 4), (3, 6, 3), (1, 9, 4)], [0, 2, 9, 6, 5], [0, 7, 0, 0, 0, 8, 17, 2, 15], ce_m14)]) (by decide +kernel) ce_p221 (ce_pc ce_p14 (ce_pc ce_p14 (ce_pc ce_p14 (ce_pc ce_p14 ce_pn))))
def ce_m506 : Nat → Nat → Int := ce_F 7 10 0x140a44020229100a211001001440048000441008048201008048
theorem ce_p506 : rk_M 2 ce_m506 := ce_st (b1 := 2) (T := ce_m298) (rem := [(1, 1, 1)]) (rows := [0, 2, 5, 6, 12, 11, 9]) (cols := [9, 0, 13, 2, 4, 17, 10, 6, 19, 15]) (L := [(1, 2, [(3, 6, 1), (5, 3, 2), (5, 5, 4), (5, 8, 7)], [0, 11, 2, 8, 4, 6], [2, 0, 6, 0, 20, 0, 17, 14, 0, 4], ce_m52), (8, 2, [(3, 6, 1), (5, 6, 5), (4, 9, 2)], [0, 11, 2, 8, 4, 6], [2, 0, 4, 7, 20, 16, 0, 14], ce_m52), (2, 2, [(3, 6, 1), (5, 5, 0)], [0, 11, 2, 8, 4, 6], [2, 0, 0, 7, 20, 0, 17, 14, 0, 4], ce_m52), (5, 2, [(3, 6, 1)], [0, 11, 2, 8, 4, 6], [2, 0, 0, 7, 20, 0, 17, 14, 0, 4], ce_m52)]) (by decide +kernel) ce_p298 (ce_pc ce_p52 (ce_pc ce_p52 (ce_pc ce_p52 (ce_pc ce_p52 ce_pn))))
def ce_m507 : Nat → Nat → Int := ce_F 7 10 0x12212008211411009009201080411000052008200041040200209
theorem ce_p507 : rk_M 2 ce_m507 := ce_st (b1 := 2) (T := ce_m230) (rem := []) (rows := [0, 2, 7, 4, 10, 8, 13]) (cols := [8, 13, 2, 15, 4, 7, 10, 21, 17, 18]) (L := [(0, 2, [(3, 6, 4), (5, 3, 2), (5, 4, 1), (5, 9, 7)], [0, 2, 9, 10, 4, 6], [0, 3, 6, 0, 0, 20, 16, 5, 14], ce_m52), (1, 2, [(3, 6, 4), (4, 5, 3), (5, 7, 6)], [0, 2, 9, 10, 4, 6], [0, 0, 6, 20, 2, 0, 16, 0, 14, 4], ce_m52), (7, 2, [(3, 6, 4), (4, 8, 3)], [0, 2, 9, 10, 4, 6], [0, 0, 6, 14, 2, 20, 16, 0, 0, 4], ce_m52), (3, 2, [(3, 6, 4)], [0, 2, 9, 10, 4, 6], [0, 0, 6, 0, 2, 20, 16, 0, 14, 4], ce_m52)]) (by decide +kernel) ce_p230 (ce_pc ce_p52 (ce_pc ce_p52 (ce_pc ce_p52 (ce_pc ce_p52 ce_pn))))
def ce_m508 : Nat → Nat → Int := ce_F 7 10 0x1209208201248211011081080091010010401008201200041009
theorem ce_p508 : rk_M 2 ce_m508 := ce_st (b1 := 2) (T := ce_m297) (rem := [(1, 6, 5)]) (rows := [0, 7, 2, 4, 12, 9, 11]) (cols := [14, 11, 6, 3, 13, 5, 0, 17, 19, 9]) (L := [(6, 2, [(3, 5, 2), (4, 7, 1), (4, 8, 4), (5, 9, 0)], [0, 9, 11, 3, 4, 0, 6], [14, 16, 3, 6, 4, 21], ce_m52), (0, 2, [(3, 5, 2), (4, 4, 3), (4, 5, 1)], [0, 9, 11, 3, 4, 0, 6], [0, 21, 3, 6, 0, 0, 0, 16, 4, 15], ce_m52), (1, 2, [(3, 5, 2), (5, 4, 2)], [0, 9, 11, 3, 4, 0, 6], [0, 0, 3, 6, 0, 21, 0, 16, 4, 15], ce_m52), (4, 2, [(3, 5, 2)], [0, 9, 11, 3, 4, 0, 6], [0, 0, 3, 6, 0, 21, 0, 16, 4, 15], ce_m52)]) (by decide +kernel) ce_p297 (ce_pc ce_p52 (ce_pc ce_p52 (ce_pc ce_p52 (ce_pc ce_p52 ce_pn))))
def ce_m509 : Nat → Nat → Int := ce_F 7 10 0x1104104020820105101120020a008050441008280200240001209
theorem ce_p509 : rk_M 2 ce_m509 := ce_st (b1 := 2) (T := ce_m229) (rem := []) (rows := [0, 2, 13, 10, 5, 6, 9]) (cols := [14, 4, 8, 3, 17, 10, 21, 18, 13, 6]) (L := [(1, 2, [(3, 3, 2), (3, 4, 1), (4, 7, 0), (4, 8, 4)], [0, 2, 6, 0, 0, 4, 8], [16, 0, 10, 3, 15, 8, 12, 0, 0, 4], ce_m15), (3, 2, [(3, 3, 2), (3, 4, 1), (4, 5, 0), (4, 6, 4)], [0, 4, 8, 0, 0, 2, 6], [8, 0, 2, 0, 12, 0, 0, 14, 17, 4], ce_m15), (0, 2, [(3, 3, 2), (3, 4, 1), (5, 9, 4)], [0, 4, 8, 0, 0, 2, 6], [0, 0, 2, 0, 5, 8, 12, 14, 17], ce_m15), (4, 2, [(3, 3, 2), (3, 4, 1)], [0, 4, 8, 0, 0, 2, 6], [0, 0, 2, 0, 0, 8, 12, 14, 17, 4], ce_m15)]) (by decide +kernel) ce_p229 (ce_pc ce_p15 (ce_pc ce_p15 (ce_pc ce_p15 (ce_pc ce_p15 ce_pn))))
def ce_m510 : Nat → Nat → Int := ce_F 7 10 0x2288088401441012201008202208200001248041001040208009
theorem ce_p510 : rk_M 2 ce_m510 := ce_st (b1 := 2) (T := ce_m223) (rem := [(1, 0, 1)]) (rows := [0, 3, 5, 13, 8, 7, 10]) (cols := [0, 15, 3, 17, 11, 20, 9, 18, 7, 12]) (L := [(0, 2, [(3, 6, 1), (5, 6, 5), (5, 8, 7)], [0, 2, 9, 7, 5, 10], [0, 7, 12, 9, 11, 3, 0, 5, 0, 14], ce_m140), (7, 2, [(3, 6, 1), (4, 3, 1), (4, 9, 5)], [0, 4, 6, 9, 10, 2], [0, 18, 4, 0, 6, 9, 2, 0, 16], ce_m67), (5, 2, [(3, 6, 1), (4, 4, 1)], [0, 4, 6, 9, 10, 2], [0, 6, 4, 18, 0, 0, 2, 0, 16, 9], ce_m67), (1, 2, [(3, 6, 1)], [0, 4, 6, 9, 10, 2], [0, 0, 4, 18, 6, 0, 2, 0, 16, 9], ce_m67)]) (by decide +kernel) ce_p223 (ce_pc ce_p140 (ce_pc ce_p67 (ce_pc ce_p67 (ce_pc ce_p67 ce_pn))))
def ce_m511 : Nat → Nat → Int := ce_F 7 10 0x1045100044009100a088008441001048208201001048040008049
theorem ce_p511 : rk_M 2 ce_m511 := ce_st (b1 := 2) (T := ce_m304) (rem := [(1, 1, 4)]) (rows := [0, 2, 10, 6, 5, 13, 8]) (cols := [2, 0, 16, 8, 6, 13, 4, 19, 10, 15]) (L := [(1, 2, [(3, 4, 3), (4, 7, 5), (4, 8, 2)], [0, 10, 2, 9, 0, 7, 5], [12, 0, 9, 2, 15, 4, 11, 0, 0, 6], ce_m140), (2, 2, [(3, 4, 3), (4, 3, 0), (4, 9, 5)], [0, 3, 9, 11, 0, 4, 7], [3, 0, 0, 0, 5, 21, 7, 16, 14], ce_m52), (0, 2, [(3, 4, 3), (5, 6, 5)], [0, 3, 9, 11, 0, 4, 7], [0, 0, 0, 3, 5, 6, 0, 16, 14, 21], ce_m52), (5, 2, [(3, 4, 3)], [0, 3, 9, 11, 0, 4, 7], [0, 0, 0, 3, 5, 0, 7, 16, 14, 21], ce_m52)]) (by decide +kernel) ce_p304 (ce_pc ce_p140 (ce_pc ce_p52 (ce_pc ce_p52 (ce_pc ce_p52 ce_pn))))
def ce_m512 : Nat → Nat → Int := ce_F 7 10 0x12480048082281009240001008209040410408001048040000049
theorem ce_p512 : rk_M 2 ce_m512 := ce_st (b1 := 2) (T := ce_m238) (rem := []) (rows := [0, 3, 4, 7, 11, 8, 12]) (cols := [7, 14, 17, 3, 5, 9, 11, 13, 19, 21]) (L := [(1, 2, [(3, 3, 2), (3, 6, 4), (4, 5, 2), (1, 9, 4)], [0, 6, 3, 0, 8, 4], [6, 0, 8, 4, 3, 0, 15, 10, 13], ce_m17), (0, 2, [(3, 3, 2), (3, 6, 4), (5, 6, 2), (1, 9, 4)], [0, 3, 4, 0, 7, 8], [0, 0, 6, 3, 9, 15, 0, 11, 17], ce_m16), (2, 2, [(3, 3, 2), (3, 6, 4), (1, 9, 4)], [0, 3, 4, 0, 7, 8], [0, 0, 0, 3, 9, 15, 7, 11, 17], ce_m16)]) (by decide +kernel) ce_p238 (ce_pc ce_p17 (ce_pc ce_p16 (ce_pc ce_p16 ce_pn)))
def ce_m513 : Nat → Nat → Int := ce_F 7 10 0x10248048250408001049008000489000240048000240240000249
theorem ce_p513 : rk_M 2 ce_m513 := ce_st (b1 := 2) (T := ce_m308) (rem := [(1, 0, 1)]) (rows := [0, 2, 6, 5, 8, 11, 12]) (cols := [0, 6, 9, 11, 2, 4, 12, 14, 16, 19]) (L := [(0, 2, [(3, 3, 1), (4, 6, 1)], [0, 9, 5, 0, 3, 10, 7], [0, 3, 7, 18, 5, 9, 0, 11, 15, 16], ce_m91), (3, 2, [(3, 3, 1), (4, 7, 2)], [0, 2, 4, 0, 6, 11, 8], [0, 2, 8, 0, 4, 10, 6, 0, 12, 15], ce_m138), (2, 2, [(3, 3, 1), (4, 4, 1)], [0, 5, 2, 0, 6, 9, 10], [0, 9, 0, 0, 0, 13, 4, 6, 10, 19], ce_m85), (1, 2, [(3, 3, 1)], [0, 5, 2, 0, 6, 9, 10], [0, 0, 0, 0, 9, 13, 4, 6, 10, 19], ce_m85)]) (by decide +kernel) ce_p308 (ce_pc ce_p91 (ce_pc ce_p138 (ce_pc ce_p85 (ce_pc ce_p85 ce_pn))))
def ce_m514 : Nat → Nat → Int := ce_F 7 10 0x2412240410488008280048048200200002248001240040000249
theorem ce_p514 : rk_M 2 ce_m514 := ce_st (b1 := 2) (T := ce_m311) (rem := [(1, 0, 1)]) (rows := [0, 3, 6, 5, 10, 8, 12]) (cols := [0, 9, 14, 12, 5, 3, 7, 11, 17, 19]) (L := [(0, 2, [(5, 4, 3)], [0, 6, 11, 8, 4, 3, 13], [0, 14, 16, 9, 0, 6, 11, 4, 18, 2], ce_m231), (1, 2, [(0, 2, 4), (5, 7, 3), (5, 8, 2)], [0, 3, 0, 8, 4, 10, 6], [0, 0, 16, 11, 7, 9, 3, 0, 0, 14], ce_m53), (2, 2, [(0, 2, 4), (5, 9, 3)], [0, 3, 0, 8, 4, 10, 6], [0, 0, 0, 15, 7, 9, 3, 10, 17], ce_m53), (3, 2, [(0, 2, 4)], [0, 3, 0, 8, 4, 10, 6], [0, 0, 0, 0, 7, 9, 3, 10, 17, 14], ce_m53)]) (by decide +kernel) ce_p311 (ce_pc ce_p231 (ce_pc ce_p53 (ce_pc ce_p53 (ce_pc ce_p53 ce_pn))))
def ce_m515 : Nat → Nat → Int := ce_F 7 10 0xa291000451010040011401401200202201008208009001040041
theorem ce_p515 : rk_M 2 ce_m515 := ce_st (b1 := 2) (T := ce_m312) (rem := [(1, 2, 1)]) (rows := [0, 3, 7, 8, 4, 10, 13]) (cols := [14, 9, 0, 5, 12, 11, 18, 3, 16, 7]) (L := [(2, 2, [(3, 5, 1), (5, 3, 0), (5, 8, 7), (5, 9, 6)], [0, 4, 6, 9, 10, 0, 2], [17, 18, 0, 0, 6, 9, 3, 4], ce_m67), (0, 2, [(3, 5, 1), (4, 6, 5), (5, 8, 4)], [0, 4, 6, 9, 10, 0, 2], [0, 18, 0, 16, 6, 9, 0, 4, 0, 2], ce_m67), (6, 2, [(3, 5, 1), (5, 8, 1)], [0, 4, 6, 9, 10, 0, 2], [0, 18, 0, 16, 6, 9, 0, 4, 0, 2], ce_m67), (8, 2, [(3, 5, 1)], [0, 4, 6, 9, 10, 0, 2], [0, 18, 0, 16, 6, 9, 0, 4, 0, 2], ce_m67)]) (by decide +kernel) ce_p312 (ce_pc ce_p67 (ce_pc ce_p67 (ce_pc ce_p67 (ce_pc ce_p67 ce_pn))))
def ce_m516 : Nat → Nat → Int := ce_F 7 10 0x820900844100821141004028a000041001048008008240090041
theorem ce_p516 : rk_M 2 ce_m516 := ce_st (b1 := 2) (T := ce_m258) (rem := []) (rows := [0, 2, 4, 10, 12, 6, 8]) (cols := [8, 4, 10, 2, 6, 18, 16, 12, 14, 21]) (L := [(0, 2, [(3, 4, 3), (4, 6, 3), (4, 7, 5)], [0, 2, 8, 10, 0, 4, 6], [0, 6, 13, 4, 8, 2, 0, 0, 10, 15], ce_m140), (2, 2, [(3, 4, 3), (4, 5, 4), (4, 8, 6)], [0, 11, 8, 3, 0, 4, 7], [0, 20, 0, 14, 17, 0, 2, 7, 0, 5], ce_m52), (5, 2, [(3, 4, 3), (5, 9, 6)], [0, 11, 8, 3, 0, 4, 7], [0, 20, 0, 14, 17, 0, 4, 7, 2], ce_m52), (6, 2, [(3, 4, 3)], [0, 11, 8, 3, 0, 4, 7], [0, 20, 0, 14, 17, 0, 0, 7, 2, 5], ce_m52)]) (by decide +kernel) ce_p258 (ce_pc ce_p140 (ce_pc ce_p52 (ce_pc ce_p52 (ce_pc ce_p52 ce_pn))))
def ce_m517 : Nat → Nat → Int := ce_F 7 10 0x1048920024101100904200800008a200009041009000240008209
theorem ce_p517 : rk_M 2 ce_m517 := ce_st (b1 := 2) (T := ce_m172) (rem := []) (rows := [0, 11, 6, 3, 5, 8, 12]) (cols := [13, 3, 4, 9, 6, 20, 15, 23, 11, 17]) (L := [(0, 2, [(3, 3, 2), (5, 7, 5)], [0, 2, 8, 0, 10, 6, 5], [0, 19, 10, 5, 15, 3, 6, 0, 16, 12], ce_m82), (5, 2, [(3, 3, 2), (5, 3, 2)], [0, 4, 3, 0, 10, 9, 7], [0, 4, 7, 0, 9, 0, 14, 10, 17, 18], ce_m74), (1, 2, [(3, 3, 2), (5, 6, 3)], [0, 6, 8, 0, 2, 4, 11], [0, 0, 6, 11, 15, 0, 0, 20, 2, 12], ce_m50), (3, 2, [(3, 3, 2)], [0, 6, 8, 0, 2, 4, 11], [0, 0, 6, 0, 15, 0, 10, 20, 2, 12], ce_m50)]) (by decide +kernel) ce_p172 (ce_pc ce_p82 (ce_pc ce_p74 (ce_pc ce_p50 (ce_pc ce_p50 ce_pn))))
def ce_m518 : Nat → Nat → Int := ce_F 7 10 0x12202208281400242240008402088008410001040241000000249
theorem ce_p518 : rk_M 2 ce_m518 := ce_st (b1 := 2) (T := ce_m307) (rem := [(1, 2, 1)]) (rows := [0, 3, 4, 6, 8, 10, 12]) (cols := [14, 18, 0, 16, 7, 3, 8, 10, 5, 12]) (L := [(2, 2, [(5, 4, 3), (5, 5, 0), (5, 8, 1)], [0, 3, 12, 8, 6, 4, 10], [4, 2, 0, 6, 0, 0, 10, 20, 0, 14], ce_m223), (0, 2, [(4, 7, 1), (5, 9, 3)], [0, 3, 12, 8, 6, 4, 10], [0, 20, 0, 15, 7, 5, 10, 0, 3], ce_m223), (3, 2, [(4, 6, 1)], [0, 3, 12, 8, 6, 4, 10], [0, 10, 0, 0, 7, 5, 0, 20, 3, 14], ce_m223), (1, 2, [], [0, 3, 12, 8, 6, 4, 10], [0, 0, 0, 0, 7, 5, 10, 20, 3, 14], ce_m223)]) (by decide +kernel) ce_p307 (ce_pc ce_p223 (ce_pc ce_p223 (ce_pc ce_p223 (ce_pc ce_p223 ce_pn))))
def ce_m519 : Nat → Nat → Int := ce_F 7 10 0x9201009490081000492040009010201001201000248040000049
theorem ce_p519 : rk_M 2 ce_m519 := ce_st (b1 := 2) (T := ce_m174) (rem := []) (rows := [0, 7, 5, 2, 13, 9, 10]) (cols := [13, 6, 23, 3, 11, 19, 8, 4, 17, 20]) (L := [(1, 2, [(3, 6, 5), (4, 3, 0), (5, 7, 2), (1, 9, 5)], [0, 10, 6, 3, 4, 8], [6, 0, 4, 0, 11, 15, 3, 0, 16], ce_m53), (2, 2, [(3, 6, 5), (4, 4, 0), (1, 9, 5)], [0, 10, 6, 3, 4, 8], [11, 0, 0, 6, 0, 15, 3, 5, 16], ce_m53), (0, 2, [(3, 6, 5), (1, 9, 5)], [0, 10, 6, 3, 4, 8], [0, 0, 0, 6, 11, 15, 3, 5, 16], ce_m53)]) (by decide +kernel) ce_p174 (ce_pc ce_p53 (ce_pc ce_p53 (ce_pc ce_p53 ce_pn)))
def ce_m520 : Nat → Nat → Int := ce_F 7 10 0x9081201481081002440408048208040048009000009040001009
theorem ce_p520 : rk_M 2 ce_m520 := ce_st (b1 := 2) (T := ce_m231) (rem := [(4, 9, 4)]) (rows := [0, 2, 8, 12, 11, 4, 6]) (cols := [6, 12, 2, 8, 11, 18, 14, 20, 17]) (L := [(1, 2, [(4, 3, 0), (5, 6, 4)], [0, 4, 6, 2, 11, 8, 12], [14, 0, 10, 0, 19, 4, 0, 6, 16, 25], ce_m150), (4, 2, [], [0, 8, 2, 4, 6, 12, 11], [4, 0, 18, 14, 0, 2, 8, 10, 16, 21], ce_m231), (0, 2, [], [0, 4, 6, 2, 11, 8, 12], [0, 0, 10, 14, 0, 4, 18, 6, 16, 25], ce_m150)]) (by decide +kernel) ce_p231 (ce_pc ce_p150 (ce_pc ce_p231 (ce_pc ce_p150 ce_pn)))
def ce_m521 : Nat → Nat → Int := ce_F 7 10 0x1281009201481008040241042010200201201000248040000049
theorem ce_p521 : rk_M 2 ce_m521 := ce_st (b1 := 2) (T := ce_m152) (rem := [(4, 8, 1), (4, 9, 2)]) (rows := [0, 8, 2, 5, 10, 7, 12]) (cols := [16, 23, 14, 4, 2, 12, 6, 20]) (L := [(1, 2, [(4, 3, 0), (4, 6, 2)], [0, 9, 3, 4, 11, 6, 13], [5, 0, 7, 0, 3, 13, 0, 21, 22, 15], ce_m152), (2, 2, [(4, 4, 0)], [0, 9, 3, 4, 11, 6, 13], [3, 0, 0, 5, 0, 13, 7, 21, 22, 15], ce_m152), (0, 2, [], [0, 9, 3, 4, 11, 6, 13], [0, 0, 0, 5, 3, 13, 7, 21, 22, 15], ce_m152)]) (by decide +kernel) ce_p152 (ce_pc ce_p152 (ce_pc ce_p152 (ce_pc ce_p152 ce_pn)))
def ce_m522 : Nat → Nat → Int := ce_F 7 10 0x9440040210091002090408048208041041200008208040000049
theorem ce_p522 : rk_M 2 ce_m522 := ce_st (b1 := 2) (T := ce_m336) (rem := [(1, 1, 4), (4, 9, 2)]) (rows := [0, 10, 4, 12, 9, 3, 7]) (cols := [16, 0, 5, 8, 2, 14, 6, 10, 12]) (L := [(1, 2, [(4, 5, 0)], [0, 3, 7, 5, 8, 10, 12], [5, 0, 17, 3, 11, 0, 13, 7, 9, 14], ce_m335), (0, 2, [(5, 7, 2)], [0, 2, 6, 4, 9, 11, 13], [0, 0, 7, 2, 10, 4, 12, 0, 8, 15], ce_m335), (2, 2, [], [0, 2, 6, 4, 9, 11, 13], [0, 0, 0, 2, 10, 4, 12, 6, 8, 15], ce_m335)]) (by decide +kernel) ce_p336 (ce_pc ce_p335 (ce_pc ce_p335 (ce_pc ce_p335 ce_pn)))
def ce_m523 : Nat → Nat → Int := ce_F 7 10 0x845100104820825020a200048009040008088001008040001009
theorem ce_p523 : rk_M 2 ce_m523 := ce_st (b1 := 2) (T := ce_m232) (rem := [(4, 9, 4)]) (rows := [0, 6, 2, 12, 4, 10, 9]) (cols := [18, 8, 10, 4, 13, 2, 14, 16, 20]) (L := [(1, 2, [(5, 5, 4)], [0, 8, 3, 4, 11, 7, 12], [4, 0, 2, 14, 8, 0, 18, 16, 10, 20], ce_m231), (4, 2, [(4, 3, 0)], [0, 4, 7, 2, 12, 10, 8], [14, 0, 4, 0, 0, 19, 10, 16, 6, 24], ce_m150), (0, 2, [], [0, 4, 7, 2, 12, 10, 8], [0, 0, 4, 14, 0, 19, 10, 16, 6, 24], ce_m150)]) (by decide +kernel) ce_p232 (ce_pc ce_p231 (ce_pc ce_p150 (ce_pc ce_p150 ce_pn)))
def ce_m524 : Nat → Nat → Int := ce_F 7 10 0x2212200202488009408040200089001009008001201040200209
theorem ce_p524 : rk_M 2 ce_m524 := ce_st (b1 := 2) (T := ce_m298) (rem := [(1, 0, 1), (1, 1, 2)]) (rows := [0, 6, 2, 5, 12, 11, 9]) (cols := [0, 0, 9, 13, 2, 4, 10, 19, 6, 15]) (L := [(0, 2, [], [0, 12, 2, 5, 10, 9, 7], [0, 14, 13, 11, 2, 8, 18, 17, 4, 7], ce_m301), (1, 2, [(3, 6, 2), (5, 4, 3), (5, 8, 7)], [0, 8, 11, 2, 4, 6], [0, 0, 2, 6, 0, 20, 17, 15, 0, 4], ce_m52), (7, 2, [(3, 6, 2), (4, 9, 3)], [0, 8, 11, 2, 4, 6], [0, 0, 2, 4, 7, 20, 17, 0, 14], ce_m52), (3, 2, [(3, 6, 2)], [0, 8, 11, 2, 4, 6], [0, 0, 2, 0, 7, 20, 17, 0, 14, 4], ce_m52)]) (by decide +kernel) ce_p298 (ce_pc ce_p301 (ce_pc ce_p52 (ce_pc ce_p52 (ce_pc ce_p52 ce_pn))))
def ce_m525 : Nat → Nat → Int := ce_F 7 10 0x9240049009240208002440040408040082440010408040000049
theorem ce_p525 : rk_M 2 ce_m525 := ce_st (b1 := 2) (T := ce_m184) (rem := []) (rows := [0, 2, 5, 6, 9, 11, 12]) (cols := [8, 23, 11, 4, 6, 3, 14, 13, 18, 21]) (L := [(1, 2, [(5, 4, 2), (5, 5, 0)], [0, 3, 4, 11, 6, 12, 8], [9, 0, 14, 5, 0, 0, 17, 6, 20, 10], ce_m155), (0, 2, [(5, 3, 2)], [0, 3, 4, 11, 6, 12, 8], [0, 0, 4, 0, 15, 8, 17, 6, 20, 10], ce_m155), (2, 2, [], [0, 3, 4, 11, 6, 12, 8], [0, 0, 0, 5, 15, 8, 17, 6, 20, 10], ce_m155)]) (by decide +kernel) ce_p184 (ce_pc ce_p155 (ce_pc ce_p155 (ce_pc ce_p155 ce_pn)))
def ce_m526 : Nat → Nat → Int := ce_F 7 10 0x1044044044108020a009001048008240048009000041040000209
theorem ce_p526 : rk_M 2 ce_m526 := ce_st (b1 := 2) (T := ce_m173) (rem := [(4, 7, 3)]) (rows := [0, 6, 8, 2, 12, 10, 5]) (cols := [12, 8, 7, 4, 20, 22, 11, 0, 16, 18]) (L := [(3, 2, [(4, 6, 1)], [0, 6, 8, 5, 12, 10, 2], [12, 8, 2, 0, 20, 22, 0, 5, 19, 17], ce_m173), (1, 2, [(4, 4, 0)], [0, 8, 4, 13, 2, 11, 7], [6, 0, 11, 0, 0, 4, 14, 20, 9, 2], ce_m156), (0, 2, [], [0, 8, 4, 13, 2, 11, 7], [0, 0, 11, 0, 6, 4, 14, 20, 9, 2], ce_m156)]) (by decide +kernel) ce_p173 (ce_pc ce_p173 (ce_pc ce_p156 (ce_pc ce_p156 ce_pn)))
def ce_m527 : Nat → Nat → Int := ce_F 7 10 0x11402040440201048240009082048000209001000009240000049
theorem ce_p527 : rk_M 2 ce_m527 := ce_st (b1 := 2) (T := ce_m173) (rem := []) (rows := [0, 6, 8, 5, 2, 12, 11]) (cols := [12, 2, 20, 7, 11, 22, 4, 8, 18, 16]) (L := [(1, 2, [(0, 1, 3), (1, 3, 3), (4, 5, 0), (5, 9, 2)], [0, 0, 5, 7, 9, 10, 2], [17, 0, 8, 0, 5, 0, 18, 3, 6], ce_m67), (2, 2, [(0, 1, 3), (1, 3, 3), (4, 7, 0)], [0, 0, 5, 7, 9, 10, 2], [3, 0, 0, 0, 5, 17, 18, 0, 6, 9], ce_m67), (0, 2, [(0, 1, 3), (1, 3, 3)], [0, 0, 5, 7, 9, 10, 2], [0, 0, 0, 0, 5, 17, 18, 3, 6, 9], ce_m67)]) (by decide +kernel) ce_p173 (ce_pc ce_p67 (ce_pc ce_p67 (ce_pc ce_p67 ce_pn)))
def ce_m528 : Nat → Nat → Int := ce_F 7 10 0x120120841140100a088001000049242400041001041000008201
theorem ce_p528 : rk_M 2 ce_m528 := ce_st (b1 := 2) (T := ce_m180) (rem := [(4, 3, 1), (4, 9, 5)]) (rows := [0, 6, 12, 2, 10, 8, 4]) (cols := [8, 2, 6, 0, 4, 13, 14, 16, 18]) (L := [(3, 2, [(5, 8, 0)], [0, 2, 4, 6, 9, 10, 12], [8, 14, 2, 0, 4, 13, 6, 11, 0, 17], ce_m339), (5, 2, [], [0, 2, 12, 8, 7, 4, 10], [14, 12, 2, 0, 6, 0, 4, 19, 16, 11], ce_m224), (0, 2, [], [0, 4, 9, 6, 3, 10, 12], [0, 18, 12, 0, 14, 0, 4, 23, 6, 9], ce_m178)]) (by decide +kernel) ce_p180 (ce_pc ce_p339 (ce_pc ce_p224 (ce_pc ce_p178 ce_pn)))
def ce_m529 : Nat → Nat → Int := ce_F 7 10 0x12291000001288008440040080441009000408001208040201009
theorem ce_p529 : rk_M 2 ce_m529 := ce_st (b1 := 2) (T := ce_m340) (rem := [(1, 0, 1), (1, 1, 2)]) (rows := [0, 3, 4, 8, 11, 7, 12]) (cols := [0, 0, 12, 3, 14, 5, 7, 16, 8, 10]) (L := [(0, 2, [(5, 5, 4)], [0, 10, 9, 5, 13, 2, 7], [0, 19, 17, 6, 3, 0, 8, 21, 10, 12], ce_m223), (1, 2, [(5, 9, 7)], [0, 5, 10, 9, 3, 7, 12], [0, 0, 5, 7, 12, 9, 3, 10, 15], ce_m345), (7, 2, [], [0, 11, 8, 4, 12, 3, 6], [0, 0, 16, 7, 4, 3, 9, 0, 11, 13], ce_m223), (4, 2, [(2, 5, 1)], [0, 5, 11, 6, 9, 0, 2], [0, 0, 18, 17, 0, 5, 3, 0, 7, 9], ce_m67)]) (by decide +kernel) ce_p340 (ce_pc ce_p223 (ce_pc ce_p345 (ce_pc ce_p223 (ce_pc ce_p67 ce_pn))))
def ce_m530 : Nat → Nat → Int := ce_F 7 10 0xa409000442009000250408200240240240009000041200008201
theorem ce_p530 : rk_M 2 ce_m530 := ce_st (b1 := 2) (T := ce_m192) (rem := []) (rows := [0, 2, 4, 6, 12, 8, 10]) (cols := [6, 2, 4, 23, 8, 20, 10, 12, 16, 18]) (L := [(0, 2, [(2, 4, 2), (5, 7, 5)], [0, 11, 7, 3, 0, 4, 9], [0, 7, 16, 4, 9, 18, 11, 0, 12, 3], ce_m67), (3, 2, [(2, 4, 2), (4, 9, 5)], [0, 9, 6, 11, 0, 4, 3], [0, 16, 12, 0, 9, 7, 11, 4, 2], ce_m51), (5, 2, [(2, 4, 2)], [0, 9, 6, 11, 0, 4, 3], [0, 16, 12, 0, 9, 0, 11, 4, 2, 7], ce_m51)]) (by decide +kernel) ce_p192 (ce_pc ce_p67 (ce_pc ce_p51 (ce_pc ce_p51 ce_pn)))
def ce_m531 : Nat → Nat → Int := ce_F 7 10 0x9240048001240248041200040481000208408001048040000049
theorem ce_p531 : rk_M 2 ce_m531 := ce_st (b1 := 2) (T := ce_m194) (rem := [(4, 8, 2)]) (rows := [0, 4, 10, 3, 12, 6, 9]) (cols := [6, 18, 5, 12, 2, 8, 10, 17, 0, 20]) (L := [(0, 2, [], [0, 11, 7, 4, 9, 3, 12], [0, 13, 8, 6, 5, 3, 11, 17, 14, 19], ce_m313), (2, 2, [(4, 5, 1)], [0, 4, 10, 3, 12, 6, 9], [0, 8, 0, 12, 2, 0, 10, 17, 5, 20], ce_m194), (1, 2, [], [0, 4, 10, 3, 12, 6, 9], [0, 0, 0, 12, 2, 8, 10, 17, 5, 20], ce_m194)]) (by decide +kernel) ce_p194 (ce_pc ce_p313 (ce_pc ce_p194 (ce_pc ce_p194 ce_pn)))
def ce_m532 : Nat → Nat → Int := ce_F 7 10 0x12480048001240249008200002089000409008049000040000049
theorem ce_p532 : rk_M 2 ce_m532 := ce_st (b1 := 2) (T := ce_m192) (rem := []) (rows := [0, 5, 11, 2, 8, 7, 12]) (cols := [7, 21, 14, 4, 9, 19, 3, 13, 11, 23]) (L := [(0, 2, [(5, 6, 2), (5, 7, 1)], [0, 2, 11, 9, 12, 4, 7], [0, 3, 5, 21, 6, 14, 0, 0, 8, 18], ce_m184), (2, 2, [(4, 4, 1)], [0, 2, 11, 9, 12, 4, 7], [0, 6, 0, 21, 0, 14, 4, 2, 8, 18], ce_m184), (1, 2, [], [0, 2, 11, 9, 12, 4, 7], [0, 0, 0, 21, 6, 14, 4, 2, 8, 18], ce_m184)]) (by decide +kernel) ce_p192 (ce_pc ce_p184 (ce_pc ce_p184 (ce_pc ce_p184 ce_pn)))
def ce_m533 : Nat → Nat → Int := ce_F 7 10 0xa08208809021100a080408049008040048041000051000000009
theorem ce_p533 : rk_M 2 ce_m533 := ce_st (b1 := 2) (T := ce_m231) (rem := [(4, 9, 1)]) (rows := [0, 3, 9, 10, 7, 13, 4]) (cols := [13, 10, 5, 8, 3, 19, 15, 20, 17]) (L := [(0, 2, [(5, 6, 1)], [0, 8, 2, 6, 11, 4, 13], [0, 9, 4, 15, 18, 2, 0, 11, 17, 21], ce_m231), (1, 2, [], [0, 8, 2, 6, 11, 4, 13], [0, 0, 4, 15, 18, 2, 8, 11, 17, 21], ce_m231)]) (by decide +kernel) ce_p231 (ce_pc ce_p231 (ce_pc ce_p231 ce_pn))
def ce_m534 : Nat → Nat → Int := ce_F 7 10 0x12480048208048002011040012200200088208049000040000049
theorem ce_p534 : rk_M 2 ce_m534 := ce_st (b1 := 2) (T := ce_m319) (rem := [(1, 0, 1)]) (rows := [0, 3, 8, 4, 10, 7, 12]) (cols := [0, 14, 18, 9, 11, 12, 5, 3, 7, 17]) (L := [(0, 2, [(5, 6, 1), (5, 8, 2)], [0, 5, 2, 6, 11, 8, 12], [0, 2, 12, 4, 16, 8, 0, 11, 0, 21], ce_m194), (2, 2, [(4, 5, 1)], [0, 5, 2, 6, 11, 8, 12], [0, 8, 0, 4, 16, 0, 3, 11, 13, 21], ce_m194), (1, 2, [], [0, 5, 2, 6, 11, 8, 12], [0, 0, 0, 4, 16, 8, 3, 11, 13, 21], ce_m194)]) (by decide +kernel) ce_p319 (ce_pc ce_p194 (ce_pc ce_p194 (ce_pc ce_p194 ce_pn)))
def ce_m535 : Nat → Nat → Int := ce_F 7 10 0x9202040049081009200408041400200208041000009040001009
theorem ce_p535 : rk_M 2 ce_m535 := ce_st (b1 := 2) (T := ce_m150) (rem := []) (rows := [0, 7, 9, 4, 2, 12, 10]) (cols := [13, 2, 19, 5, 27, 11, 20, 16, 14, 6]) (L := [(0, 2, [(5, 4, 2)], [0, 4, 10, 6, 12, 8, 2], [0, 7, 4, 22, 0, 14, 12, 16, 2, 20], ce_m152), (1, 2, [(5, 8, 4)], [0, 7, 9, 4, 2, 12, 10], [0, 0, 19, 5, 15, 11, 20, 16, 0, 6], ce_m150), (4, 2, [], [0, 7, 9, 4, 2, 12, 10], [0, 0, 19, 5, 0, 11, 20, 16, 14, 6], ce_m150)]) (by decide +kernel) ce_p150 (ce_pc ce_p152 (ce_pc ce_p150 (ce_pc ce_p150 ce_pn)))
def ce_m536 : Nat → Nat → Int := ce_F 7 10 0x9240048201240001010440008088200049001000208240000049
theorem ce_p536 : rk_M 2 ce_m536 := ce_st (b1 := 2) (T := ce_m192) (rem := [(4, 8, 2)]) (rows := [0, 7, 5, 11, 2, 13, 8]) (cols := [7, 19, 4, 9, 13, 3, 11, 16, 0, 23]) (L := [(0, 2, [], [0, 3, 11, 7, 4, 9, 12], [0, 11, 6, 3, 8, 5, 13, 17, 14, 19], ce_m315), (2, 2, [(4, 3, 1)], [0, 4, 2, 11, 9, 6, 12], [0, 6, 0, 0, 2, 4, 8, 23, 21, 18], ce_m184), (1, 2, [], [0, 4, 2, 11, 9, 6, 12], [0, 0, 0, 6, 2, 4, 8, 23, 21, 18], ce_m184)]) (by decide +kernel) ce_p192 (ce_pc ce_p315 (ce_pc ce_p184 (ce_pc ce_p184 ce_pn)))
def ce_m537 : Nat → Nat → Int := ce_F 7 10 0x12402200401288009001041049200010008088000009040001009
theorem ce_p537 : rk_M 2 ce_m537 := ce_st (b1 := 2) (T := ce_m180) (rem := [(1, 1, 2)]) (rows := [0, 4, 3, 11, 6, 13, 9]) (cols := [10, 0, 4, 16, 20, 9, 23, 12, 14, 6]) (L := [(1, 2, [(4, 2, 0), (4, 9, 4)], [0, 4, 7, 10, 2, 9, 13], [4, 0, 0, 16, 6, 15, 13, 22, 8], ce_m180), (0, 2, [(5, 4, 3)], [0, 4, 7, 10, 2, 9, 13], [0, 0, 4, 16, 0, 15, 13, 22, 8, 6], ce_m180), (4, 2, [], [0, 4, 7, 10, 2, 9, 13], [0, 0, 4, 16, 0, 15, 13, 22, 8, 6], ce_m180)]) (by decide +kernel) ce_p180 (ce_pc ce_p180 (ce_pc ce_p180 (ce_pc ce_p180 ce_pn)))
def ce_m538 : Nat → Nat → Int := ce_F 7 10 0x9480041480088008090040050200040241008000009240000049
theorem ce_p538 : rk_M 2 ce_m538 := ce_st (b1 := 2) (T := ce_m285) (rem := []) (rows := [0, 2, 4, 8, 11, 6, 12]) (cols := [10, 4, 21, 2, 8, 6, 12, 19, 16, 15]) (L := [(1, 2, [(0, 1, 3), (1, 3, 5), (5, 6, 2), (5, 7, 0)], [0, 0, 5, 6, 8, 11, 2], [4, 0, 2, 0, 17, 18, 0, 0, 6, 8], ce_m67), (0, 2, [(0, 1, 3), (1, 3, 5), (5, 5, 2)], [0, 0, 5, 6, 8, 11, 2], [0, 0, 19, 0, 17, 0, 3, 5, 6, 8], ce_m67), (2, 2, [(0, 1, 3), (1, 3, 5)], [0, 0, 5, 6, 8, 11, 2], [0, 0, 0, 0, 17, 18, 3, 5, 6, 8], ce_m67)]) (by decide +kernel) ce_p285 (ce_pc ce_p67 (ce_pc ce_p67 (ce_pc ce_p67 ce_pn)))
def ce_m539 : Nat → Nat → Int := ce_F 7 10 0x9002441252000000210440001280041000049000048200000049
theorem ce_p539 : rk_M 2 ce_m539 := ce_st (b1 := 2) (T := ce_m156) (rem := []) (rows := [0, 4, 2, 6, 8, 12, 10]) (cols := [2, 4, 6, 12, 14, 10, 20, 22, 8, 24]) (L := [(1, 2, [(0, 2, 8), (5, 3, 2), (5, 4, 0), (4, 9, 8)], [0, 11, 0, 2, 7, 5, 8], [8, 0, 17, 0, 0, 4, 2, 10, 13], ce_m51), (0, 2, [(0, 2, 8), (5, 5, 2), (4, 9, 8)], [0, 11, 0, 2, 7, 5, 8], [0, 0, 5, 16, 9, 0, 2, 10, 13], ce_m51), (2, 2, [(0, 2, 8), (4, 9, 8)], [0, 11, 0, 2, 7, 5, 8], [0, 0, 0, 16, 9, 4, 2, 10, 13], ce_m51)]) (by decide +kernel) ce_p156 (ce_pc ce_p51 (ce_pc ce_p51 (ce_pc ce_p51 ce_pn)))
def ce_m540 : Nat → Nat → Int := ce_F 7 10 0x9082200212088001090040009002208008201000041040000209
theorem ce_p540 : rk_M 2 ce_m540 := ce_st (b1 := 2) (T := ce_m189) (rem := [(1, 1, 3), (4, 9, 3)]) (rows := [0, 9, 12, 11, 4, 6, 2]) (cols := [23, 0, 12, 8, 5, 21, 7, 11, 2]) (L := [(1, 2, [], [0, 3, 7, 8, 5, 12, 10], [5, 0, 3, 17, 7, 8, 14, 18, 11, 13], ce_m314), (0, 2, [(5, 4, 3)], [0, 9, 12, 11, 4, 6, 2], [0, 0, 12, 4, 0, 21, 7, 11, 2, 8], ce_m189), (3, 2, [], [0, 9, 12, 11, 4, 6, 2], [0, 0, 12, 0, 5, 21, 7, 11, 2, 8], ce_m189)]) (by decide +kernel) ce_p189 (ce_pc ce_p314 (ce_pc ce_p189 (ce_pc ce_p189 ce_pn)))
def ce_m541 : Nat → Nat → Int := ce_F 7 10 0x1209008209008202410040412000040088081000041200000209
theorem ce_p541 : rk_M 2 ce_m541 := ce_st (b1 := 2) (T := ce_m185) (rem := [(1, 3, 5)]) (rows := [0, 9, 2, 10, 7, 5, 12]) (cols := [12, 9, 5, 0, 21, 6, 3, 11, 18, 15]) (L := [(3, 2, [(3, 5, 3), (4, 4, 1), (5, 6, 0), (1, 9, 3)], [0, 4, 3, 7, 10, 0, 8], [5, 6, 12, 0, 0, 15, 0, 16, 22], ce_m50), (0, 2, [(3, 5, 3), (1, 9, 3)], [0, 2, 7, 5, 10, 0, 8], [0, 2, 8, 0, 6, 19, 10, 12, 16], ce_m74), (1, 2, [(3, 5, 3), (1, 9, 3)], [0, 4, 3, 7, 10, 0, 8], [0, 0, 12, 0, 6, 15, 4, 16, 22], ce_m50)]) (by decide +kernel) ce_p185 (ce_pc ce_p50 (ce_pc ce_p74 (ce_pc ce_p50 ce_pn)))
def ce_m542 : Nat → Nat → Int := ce_F 7 10 0xa208081400488001041040009008040008081000041200000209
theorem ce_p542 : rk_M 2 ce_m542 := ce_st (b1 := 2) (T := ce_m202) (rem := [(1, 1, 1)]) (rows := [0, 3, 4, 11, 9, 6, 12]) (cols := [14, 0, 7, 10, 5, 8, 19, 23, 21, 17]) (L := [(1, 2, [], [0, 7, 4, 2, 8, 10, 12], [2, 0, 11, 8, 19, 12, 4, 14, 21, 22], ce_m194), (3, 2, [(4, 5, 0)], [0, 5, 2, 9, 7, 13, 10], [8, 0, 5, 0, 15, 0, 11, 21, 19, 24], ce_m155), (0, 2, [], [0, 5, 2, 9, 7, 13, 10], [0, 0, 5, 0, 15, 8, 11, 21, 19, 24], ce_m155)]) (by decide +kernel) ce_p202 (ce_pc ce_p194 (ce_pc ce_p155 (ce_pc ce_p155 ce_pn)))
def ce_m543 : Nat → Nat → Int := ce_F 7 10 0x9201001490008000450040041011000208009000048040000049
theorem ce_p543 : rk_M 2 ce_m543 := ce_st (b1 := 2) (T := ce_m185) (rem := [(1, 1, 2), (4, 6, 2)]) (rows := [0, 9, 5, 2, 10, 7, 12]) (cols := [9, 0, 12, 5, 21, 15, 0, 11, 6, 18]) (L := [(1, 2, [(4, 4, 0)], [0, 9, 5, 2, 10, 7, 12], [21, 0, 2, 5, 0, 15, 12, 11, 6, 18], ce_m185), (2, 2, [], [0, 4, 2, 9, 7, 10, 12], [2, 0, 0, 6, 10, 4, 13, 8, 15, 16], ce_m342), (0, 2, [], [0, 2, 6, 5, 11, 12, 8], [0, 0, 0, 10, 6, 18, 17, 14, 13, 20], ce_m153)]) (by decide +kernel) ce_p185 (ce_pc ce_p185 (ce_pc ce_p342 (ce_pc ce_p153 ce_pn)))
def ce_m544 : Nat → Nat → Int := ce_F 7 10 0x9080008090088010210001001241000000249000241000000241
theorem ce_p544 : rk_M 2 ce_m544 := ce_st (b1 := 2) (T := ce_m165) (rem := []) (rows := [0, 4, 2, 6, 8, 10, 12]) (cols := [4, 8, 2, 6, 12, 10, 18, 20, 25, 23]) (L := [(0, 2, [(0, 2, 1), (1, 1, 6), (4, 5, 2), (5, 7, 3)], [0, 10, 0, 2, 5, 9, 7], [0, 0, 6, 12, 8, 0, 4, 0, 15, 10], ce_m51), (3, 2, [(0, 2, 1), (1, 1, 6), (4, 4, 2)], [0, 10, 0, 2, 5, 9, 7], [0, 0, 8, 0, 0, 6, 4, 13, 15, 10], ce_m51), (2, 2, [(0, 2, 1), (1, 1, 6)], [0, 10, 0, 2, 5, 9, 7], [0, 0, 0, 0, 8, 6, 4, 13, 15, 10], ce_m51)]) (by decide +kernel) ce_p165 (ce_pc ce_p51 (ce_pc ce_p51 (ce_pc ce_p51 ce_pn)))
def ce_m545 : Nat → Nat → Int := ce_F 7 10 0x9088000410440001081400208002200040208000201040001009
theorem ce_p545 : rk_M 2 ce_m545 := ce_st (b1 := 2) (T := ce_m332) (rem := [(1, 0, 1)]) (rows := [0, 3, 4, 6, 13, 10, 9]) (cols := [0, 6, 3, 8, 16, 5, 10, 12, 15, 18]) (L := [(0, 2, [], [0, 8, 6, 3, 11, 13, 4], [0, 3, 10, 14, 5, 24, 8, 20, 19, 6], ce_m149), (1, 2, [], [0, 8, 5, 12, 10, 7, 2], [0, 0, 20, 15, 10, 4, 3, 18, 12, 6], ce_m185), (4, 2, [], [0, 10, 4, 7, 13, 9, 2], [0, 0, 14, 12, 0, 22, 6, 16, 21, 2], ce_m149)]) (by decide +kernel) ce_p332 (ce_pc ce_p149 (ce_pc ce_p185 (ce_pc ce_p149 ce_pn)))
def ce_m546 : Nat → Nat → Int := ce_F 7 10 0x12088000250040000212200201002200008088000041040000209
theorem ce_p546 : rk_M 2 ce_m546 := ce_st (b1 := 2) (T := ce_m149) (rem := [(1, 0, 1), (1, 3, 4)]) (rows := [0, 6, 8, 2, 11, 5, 12]) (cols := [0, 10, 3, 0, 8, 4, 21, 19, 13, 7]) (L := [(0, 2, [(5, 2, 1)], [0, 3, 13, 5, 8, 6, 11], [0, 7, 0, 10, 3, 5, 18, 16, 14, 8], ce_m149), (3, 2, [], [0, 6, 8, 2, 11, 5, 12], [0, 22, 3, 0, 8, 4, 21, 19, 13, 7], ce_m149), (1, 2, [], [0, 7, 10, 5, 9, 2, 12], [0, 0, 9, 0, 2, 4, 13, 11, 21, 7], ce_m149)]) (by decide +kernel) ce_p149 (ce_pc ce_p149 (ce_pc ce_p149 (ce_pc ce_p149 ce_pn)))
def ce_m547 : Nat → Nat → Int := ce_F 7 9 0x9480210281041202048241001209000240001240009001
theorem ce_p547 : rk_M 2 ce_m547 := ce_st (b1 := 2) (T := ce_m309) (rem := []) (rows := [0, 2, 4, 10, 8, 6, 12]) (cols := [8, 2, 6, 4, 15, 19, 10, 12, 17]) (L := [(0, 2, [(2, 6, 2), (5, 6, 5), (5, 7, 4)], [0, 10, 2, 4, 6, 8], [0, 4, 16, 18, 3, 7, 0, 0, 10], ce_m73), (4, 2, [(2, 6, 2), (4, 8, 5)], [0, 10, 2, 4, 6, 8], [0, 4, 16, 18, 0, 10, 6, 2], ce_m73), (5, 2, [(2, 6, 2)], [0, 10, 2, 4, 6, 8], [0, 4, 16, 18, 0, 0, 6, 2, 10], ce_m73)]) (by decide +kernel) ce_p309 (ce_pc ce_p73 (ce_pc ce_p73 (ce_pc ce_p73 ce_pn)))
def ce_m548 : Nat → Nat → Int := ce_F 7 9 0x88480211082201048201412001008411000008208000209
theorem ce_p548 : rk_M 2 ce_m548 := ce_st (b1 := 2) (T := ce_m170) (rem := []) (rows := [0, 5, 3, 7, 10, 9, 13]) (cols := [17, 21, 7, 4, 15, 8, 18, 2, 22]) (L := [(0, 2, [(3, 4, 3), (5, 3, 2), (1, 6, 3)], [0, 8, 2, 5, 0, 10, 6], [0, 13, 8, 0, 11, 5, 0, 6, 14], ce_m78), (1, 2, [(3, 4, 3), (4, 5, 3), (1, 6, 3)], [0, 9, 5, 2, 0, 6, 10], [0, 0, 13, 5, 19, 0, 0, 15, 7], ce_m78), (3, 2, [(3, 4, 3), (1, 6, 3)], [0, 9, 5, 2, 0, 6, 10], [0, 0, 13, 0, 19, 5, 0, 15, 7], ce_m78)]) (by decide +kernel) ce_p170 (ce_pc ce_p78 (ce_pc ce_p78 (ce_pc ce_p78 ce_pn)))
def ce_m549 : Nat → Nat → Int := ce_F 7 9 0x8804800820220100a001048208008208040008240000209
theorem ce_p549 : rk_M 2 ce_m549 := ce_st (b1 := 2) (T := ce_m180) (rem := [(1, 1, 1), (4, 5, 0)]) (rows := [0, 6, 10, 2, 9, 4, 12]) (cols := [13, 0, 4, 19, 6, 0, 2, 8, 16]) (L := [(1, 2, [], [0, 2, 5, 10, 7, 8, 13], [5, 0, 6, 3, 8, 11, 12, 19, 21], ce_m224), (0, 2, [(5, 8, 3)], [0, 12, 10, 4, 7, 9, 2], [0, 0, 16, 4, 6, 12, 10, 2], ce_m172), (3, 2, [], [0, 12, 10, 4, 7, 9, 2], [0, 0, 16, 0, 6, 12, 10, 2, 5], ce_m172)]) (by decide +kernel) ce_p180 (ce_pc ce_p224 (ce_pc ce_p172 (ce_pc ce_p172 ce_pn)))
def ce_m550 : Nat → Nat → Int := ce_F 8 15 0x4a00201100248200200100900a002001080402400240008040241009008048000240000049200200000000249
theorem ce_p550 : rk_M 2 ce_m550 := ce_st (b1 := 2) (T := ce_m346) (rem := []) (rows := [0, 2, 8, 6, 15, 11, 13, 5]) (cols := [4, 14, 21, 25, 2, 6, 8, 10, 16, 12, 19, 26, 23, 29, 30]) (L := [(1, 2, [(3, 4, 2), (4, 5, 0), (1, 8, 2), (5, 14, 2)], [0, 3, 5, 7, 0, 12, 8, 10], [7, 0, 8, 10, 13, 0, 5, 3, 0, 19, 21, 15, 16, 22], ce_m185), (2, 2, [(3, 4, 2), (1, 8, 2), (4, 12, 3)], [0, 7, 3, 9, 0, 11, 12, 4], [7, 0, 0, 16, 11, 15, 21, 5, 0, 13, 23, 3, 0, 18, 9], ce_m180), (0, 2, [(3, 4, 2), (5, 7, 3), (1, 8, 2)], [0, 4, 7, 12, 0, 2, 9, 10], [0, 0, 0, 8, 19, 6, 24, 0, 0, 20, 10, 15, 4, 22, 2], ce_m149), (3, 2, [(3, 4, 2), (1, 8, 2)], [0, 4, 7, 12, 0, 2, 9, 10], [0, 0, 0, 0, 19, 6, 24, 9, 0, 20, 10, 15, 4, 22, 2], ce_m149)]) (by decide +kernel) ce_p346 (ce_pc ce_p185 (ce_pc ce_p180 (ce_pc ce_p149 (ce_pc ce_p149 ce_pn))))
def ce_m551 : Nat → Nat → Int := ce_F 8 15 0x282042001001480080201000442400208040048040201048201000048000241008040000041009200000001249
theorem ce_p551 : rk_M 2 ce_m551 := ce_st (b1 := 2) (T := ce_m346) (rem := [(1, 4, 5)]) (rows := [0, 11, 8, 12, 14, 3, 7, 4]) (cols := [30, 19, 7, 26, 0, 13, 16, 29, 4, 10, 20, 3, 8, 23, 24]) (L := [(4, 2, [(4, 5, 2), (4, 9, 3)], [0, 4, 2, 14, 6, 13, 8, 10], [2, 14, 6, 8, 0, 0, 4, 12, 10, 0, 20, 23, 24, 18, 16], ce_m390), (1, 2, [(4, 6, 0), (5, 12, 2)], [0, 3, 4, 9, 10, 7, 13, 14], [12, 0, 14, 2, 0, 5, 0, 7, 8, 10, 19, 17, 0, 21, 22], ce_m473), (2, 2, [], [0, 2, 7, 4, 11, 12, 14, 9], [8, 0, 0, 5, 0, 6, 13, 2, 21, 15, 10, 22, 18, 16, 25], ce_m377), (3, 2, [(4, 7, 0)], [0, 2, 9, 6, 10, 14, 4, 13], [8, 0, 0, 0, 0, 2, 15, 0, 27, 31, 12, 20, 25, 23, 28], ce_m346), (0, 2, [], [0, 2, 9, 6, 10, 14, 4, 13], [0, 0, 0, 0, 0, 2, 15, 8, 27, 31, 12, 20, 25, 23, 28], ce_m346)]) (by decide +kernel) ce_p346 (ce_pc ce_p390 (ce_pc ce_p473 (ce_pc ce_p377 (ce_pc ce_p346 (ce_pc ce_p346 ce_pn)))))
def ce_m552 : Nat → Nat → Int := ce_F 8 15 0x44900008800224a00000800840a040001009001081040008048008200008009008200008000209200000008249
theorem ce_p552 : rk_M 2 ce_m552 := ce_st (b1 := 2) (T := ce_m356) (rem := [(1, 0, 1), (1, 5, 7)]) (rows := [0, 2, 8, 4, 10, 12, 15, 6]) (cols := [0, 6, 4, 22, 2, 0, 19, 20, 14, 16, 8, 10, 12, 24, 27]) (L := [(0, 2, [(4, 7, 1), (4, 8, 2)], [0, 3, 6, 5, 9, 10, 14, 13], [0, 12, 7, 4, 3, 18, 10, 0, 0, 9, 17, 21, 15, 23, 24], ce_m398), (5, 2, [(4, 4, 2), (4, 11, 3)], [0, 2, 6, 4, 8, 14, 11, 12], [0, 4, 2, 14, 0, 0, 11, 18, 8, 16, 6, 0, 12, 20, 23], ce_m461), (3, 2, [(4, 10, 1)], [0, 2, 5, 6, 12, 10, 15, 8], [0, 6, 2, 0, 4, 0, 13, 9, 20, 14, 0, 11, 16, 22, 18], ce_m448), (1, 2, [], [0, 2, 4, 8, 12, 14, 11, 6], [0, 0, 8, 0, 2, 0, 11, 12, 20, 22, 4, 6, 14, 16, 19], ce_m464), (2, 2, [], [0, 2, 8, 4, 10, 12, 15, 6], [0, 0, 0, 0, 2, 0, 19, 20, 14, 16, 8, 10, 12, 24, 27], ce_m356)]) (by decide +kernel) ce_p356 (ce_pc ce_p398 (ce_pc ce_p461 (ce_pc ce_p448 (ce_pc ce_p464 (ce_pc ce_p356 ce_pn)))))
def ce_m553 : Nat → Nat → Int := ce_F 8 15 0x28041004800201041100800a40001100800920820000101020a000240000240001240000088201000000008241
theorem ce_p553 : rk_M 2 ce_m553 := ce_st (b1 := 2) (T := ce_m349) (rem := [(1, 3, 6)]) (rows := [0, 2, 6, 8, 13, 11, 4, 14]) (cols := [14, 4, 19, 0, 8, 25, 2, 7, 20, 11, 22, 13, 26, 28, 17]) (L := [(3, 2, [(4, 9, 0), (4, 14, 5)], [0, 2, 4, 12, 10, 9, 14, 6], [10, 2, 14, 0, 4, 18, 6, 13, 8, 0, 22, 24, 21, 17], ce_m394), (0, 2, [(5, 12, 2)], [0, 3, 5, 7, 12, 10, 9, 14], [0, 3, 17, 0, 15, 12, 5, 6, 9, 11, 21, 22, 0, 25, 18], ce_m388), (5, 2, [(4, 8, 2)], [0, 2, 6, 8, 13, 11, 4, 14], [0, 4, 20, 0, 8, 0, 2, 7, 0, 11, 22, 13, 26, 28, 17], ce_m349), (2, 2, [], [0, 2, 6, 8, 13, 11, 4, 14], [0, 4, 0, 0, 8, 0, 2, 7, 20, 11, 22, 13, 26, 28, 17], ce_m349)]) (by decide +kernel) ce_p349 (ce_pc ce_p394 (ce_pc ce_p388 (ce_pc ce_p349 (ce_pc ce_p349 ce_pn))))
def ce_m554 : Nat → Nat → Int := ce_F 8 15 0x482002201000012210088008400441008009201000088001208000440000240008240000009041000000201041
theorem ce_p554 : rk_M 2 ce_m554 := ce_st (b1 := 2) (T := ce_m359) (rem := [(1, 0, 2), (1, 4, 6)]) (rows := [0, 4, 2, 8, 10, 15, 6, 12]) (cols := [0, 4, 21, 2, 0, 12, 10, 19, 8, 6, 15, 17, 24, 23, 27]) (L := [(0, 2, [(5, 8, 2), (5, 9, 4)], [0, 5, 7, 3, 9, 11, 12, 14], [0, 3, 8, 13, 16, 7, 15, 20, 0, 0, 5, 11, 19, 23, 25], ce_m399), (4, 2, [(4, 14, 7)], [0, 2, 4, 10, 14, 12, 6, 8], [0, 4, 20, 2, 0, 8, 6, 17, 12, 10, 15, 19, 25, 23], ce_m406), (2, 2, [(4, 11, 7)], [0, 9, 12, 10, 6, 3, 5, 15], [0, 18, 0, 11, 0, 5, 23, 8, 6, 17, 14, 0, 2, 20, 13], ce_m357), (7, 2, [], [0, 9, 12, 10, 6, 3, 5, 15], [0, 18, 0, 11, 0, 5, 23, 0, 6, 17, 14, 8, 2, 20, 13], ce_m357)]) (by decide +kernel) ce_p359 (ce_pc ce_p399 (ce_pc ce_p406 (ce_pc ce_p357 (ce_pc ce_p357 ce_pn))))
def ce_m555 : Nat → Nat → Int := ce_F 8 15 0x442091000001040210010200001209200209040008040001200011200000080480200000040048200008040009
theorem ce_p555 : rk_M 2 ce_m555 := ce_st (b1 := 2) (T := ce_m352) (rem := [(1, 6, 5)]) (rows := [0, 3, 4, 9, 11, 7, 12, 14]) (cols := [3, 14, 5, 11, 7, 9, 0, 17, 13, 27, 19, 21, 23, 25, 28]) (L := [(6, 2, [(3, 5, 2), (1, 0, 1), (4, 14, 9)], [0, 2, 4, 6, 10, 0, 9, 12], [0, 11, 2, 4, 9, 12, 0, 6, 15, 19, 16, 20, 23, 24], ce_m167), (0, 2, [(3, 5, 2), (5, 9, 7)], [0, 5, 2, 8, 13, 0, 6, 10], [0, 2, 15, 11, 5, 9, 0, 13, 7, 0, 22, 20, 18, 24, 16], ce_m165), (1, 2, [(3, 5, 2), (4, 9, 8)], [0, 5, 2, 8, 13, 0, 6, 10], [0, 0, 15, 11, 5, 9, 0, 13, 7, 0, 22, 20, 18, 24, 16], ce_m165), (9, 2, [(3, 5, 2)], [0, 5, 2, 8, 13, 0, 6, 10], [0, 0, 15, 11, 5, 9, 0, 13, 7, 0, 22, 20, 18, 24, 16], ce_m165)]) (by decide +kernel) ce_p352 (ce_pc ce_p167 (ce_pc ce_p165 (ce_pc ce_p165 (ce_pc ce_p165 ce_pn))))
def ce_m556 : Nat → Nat → Int := ce_F 8 15 0x481240040001202440040008480048040001000012408040000009208008040240000008040048000008040009
theorem ce_p556 : rk_M 2 ce_m556 := ce_st (b1 := 2) (T := ce_m416) (rem := [(1, 0, 3), (1, 1, 4), (1, 6, 5)]) (rows := [0, 4, 8, 2, 7, 10, 12, 15]) (cols := [0, 0, 2, 4, 6, 8, 0, 10, 16, 25, 20, 14, 13, 18, 22]) (L := [(0, 2, [(5, 13, 9)], [0, 5, 2, 12, 11, 15, 6, 8], [0, 23, 15, 13, 8, 4, 27, 17, 2, 19, 7, 10, 25, 0, 20], ce_m366), (1, 2, [(5, 12, 6)], [0, 3, 4, 9, 10, 7, 14, 12], [0, 0, 5, 7, 10, 16, 19, 3, 12, 27, 15, 8, 0, 25, 23], ce_m358), (6, 2, [(5, 14, 9)], [0, 11, 4, 8, 15, 12, 2, 7], [0, 0, 14, 30, 10, 24, 0, 19, 2, 9, 7, 22, 21, 4], ce_m346), (9, 2, [], [0, 11, 4, 8, 15, 12, 2, 7], [0, 0, 14, 30, 10, 24, 0, 19, 2, 0, 7, 22, 21, 4, 8], ce_m346)]) (by decide +kernel) ce_p416 (ce_pc ce_p366 (ce_pc ce_p358 (ce_pc ce_p346 (ce_pc ce_p346 ce_pn))))
def ce_m557 : Nat → Nat → Int := ce_F 8 15 0x44145000000000a20a008008200041001009000041008000008089000008008001200008008001200008000281
theorem ce_p557 : rk_M 2 ce_m557 := ce_st (b1 := 2) (T := ce_m371) (rem := [(1, 0, 1), (1, 2, 2)]) (rows := [0, 3, 5, 7, 9, 11, 12, 14]) (cols := [0, 5, 0, 16, 13, 15, 3, 7, 19, 26, 9, 11, 21, 23, 25]) (L := [(0, 2, [(5, 10, 9)], [0, 8, 4, 3, 13, 6, 15, 10], [0, 16, 8, 11, 7, 2, 26, 12, 5, 25, 0, 14, 20, 22, 18], ce_m369), (2, 2, [(4, 11, 9)], [0, 4, 8, 2, 6, 13, 14, 11], [0, 16, 0, 10, 2, 7, 12, 26, 4, 24, 14, 0, 20, 18, 22], ce_m369), (3, 2, [(5, 9, 8)], [0, 4, 8, 2, 6, 13, 14, 11], [0, 16, 0, 0, 2, 7, 12, 26, 4, 0, 14, 24, 20, 18, 22], ce_m369), (9, 2, [], [0, 4, 8, 2, 6, 13, 14, 11], [0, 16, 0, 0, 2, 7, 12, 26, 4, 0, 14, 24, 20, 18, 22], ce_m369)]) (by decide +kernel) ce_p371 (ce_pc ce_p369 (ce_pc ce_p369 (ce_pc ce_p369 (ce_pc ce_p369 ce_pn))))
def ce_m558 : Nat → Nat → Int := ce_F 8 15 0x28100140100000144a008008200041001009000041008001000089000001008001200001008001200001000281
theorem ce_p558 : rk_M 2 ce_m558 := ce_st (b1 := 2) (T := ce_m429) (rem := [(1, 0, 1), (1, 2, 2), (1, 8, 6)]) (rows := [0, 3, 5, 6, 9, 11, 12, 14]) (cols := [0, 5, 0, 16, 15, 13, 9, 11, 0, 3, 7, 18, 21, 23, 25]) (L := [(0, 2, [(5, 9, 8)], [0, 6, 2, 5, 10, 8, 12, 14], [0, 10, 2, 15, 9, 6, 22, 12, 19, 0, 4, 17, 20, 26, 24], ce_m367), (2, 2, [(4, 10, 8)], [0, 3, 7, 5, 9, 11, 12, 14], [0, 11, 0, 15, 7, 8, 13, 23, 19, 5, 0, 17, 21, 25, 27], ce_m367), (8, 2, [(4, 11, 3)], [0, 2, 6, 4, 8, 10, 13, 15], [0, 10, 0, 16, 6, 9, 12, 22, 0, 4, 18, 0, 20, 24, 26], ce_m367), (3, 2, [], [0, 2, 6, 4, 8, 10, 13, 15], [0, 10, 0, 0, 6, 9, 12, 22, 0, 4, 18, 16, 20, 24, 26], ce_m367)]) (by decide +kernel) ce_p429 (ce_pc ce_p367 (ce_pc ce_p367 (ce_pc ce_p367 (ce_pc ce_p367 ce_pn))))
def ce_m559 : Nat → Nat → Int := ce_F 8 15 0x44a440000000001049000200001241001040041000440040041010008002202200000200200208000200200201
theorem ce_p559 : rk_M 2 ce_m559 := ce_st (b1 := 2) (T := ce_m427) (rem := [(1, 0, 3), (1, 3, 4), (1, 11, 7)]) (rows := [0, 2, 9, 7, 4, 14, 12, 11]) (cols := [0, 24, 2, 0, 4, 21, 18, 23, 6, 11, 8, 0, 12, 17, 14]) (L := [(0, 2, [(4, 7, 1), (5, 13, 11)], [0, 10, 13, 4, 8, 6, 2, 15], [0, 2, 20, 7, 9, 18, 4, 0, 10, 14, 12, 17, 26, 0, 24], ce_m367), (3, 2, [(4, 14, 11)], [0, 2, 5, 9, 6, 12, 10, 15], [0, 26, 2, 0, 4, 17, 14, 18, 6, 11, 8, 20, 12, 23], ce_m357), (11, 2, [], [0, 3, 4, 8, 7, 13, 11, 14], [0, 27, 3, 0, 5, 16, 15, 24, 7, 10, 9, 0, 13, 22, 21], ce_m357), (7, 2, [], [0, 3, 4, 8, 7, 13, 11, 14], [0, 27, 3, 0, 5, 16, 15, 0, 7, 10, 9, 0, 13, 22, 21], ce_m357)]) (by decide +kernel) ce_p427 (ce_pc ce_p367 (ce_pc ce_p357 (ce_pc ce_p357 (ce_pc ce_p357 ce_pn))))
def ce_m560 : Nat → Nat → Int := ce_F 8 15 0x208208000240208208000248000241400008001240400011000440000000410041000010400040200000000049
theorem ce_p560 : rk_M 2 ce_m560 := ce_st (b1 := 2) (T := ce_m347) (rem := []) (rows := [0, 7, 5, 2, 10, 8, 12, 14]) (cols := [24, 4, 26, 11, 9, 2, 6, 12, 14, 20, 22, 16, 18, 30, 28]) (L := [(0, 2, [(4, 10, 1)], [0, 3, 4, 7, 12, 15, 11, 8], [0, 2, 4, 9, 10, 19, 16, 23, 20, 7, 0, 15, 12, 27, 24], ce_m373), (1, 2, [(5, 9, 2)], [0, 5, 7, 3, 8, 10, 14, 12], [0, 0, 23, 9, 11, 6, 2, 14, 12, 0, 20, 18, 16, 28, 30], ce_m347), (2, 2, [], [0, 5, 7, 3, 8, 10, 14, 12], [0, 0, 0, 9, 11, 6, 2, 14, 12, 22, 20, 18, 16, 28, 30], ce_m347)]) (by decide +kernel) ce_p347 (ce_pc ce_p373 (ce_pc ce_p347 (ce_pc ce_p347 ce_pn)))
def ce_m561 : Nat → Nat → Int := ce_F 8 15 0x208208000240208240001200400081002000400081010400011001000400081000040008001048000008001041
theorem ce_p561 : rk_M 2 ce_m561 := ce_st (b1 := 2) (T := ce_m435) (rem := [(1, 0, 2), (1, 4, 4), (1, 9, 6)]) (rows := [0, 11, 3, 7, 4, 8, 12, 14]) (cols := [0, 7, 18, 15, 0, 16, 5, 13, 2, 0, 24, 11, 23, 8, 20]) (L := [(0, 2, [(5, 6, 4), (4, 13, 9)], [0, 5, 6, 10, 3, 9, 12, 14], [0, 12, 15, 9, 3, 7, 0, 20, 23, 19, 17, 4, 24, 0, 27], ce_m367), (4, 2, [(4, 11, 9)], [0, 5, 3, 9, 6, 10, 12, 14], [0, 23, 15, 7, 0, 9, 3, 21, 12, 19, 17, 0, 27, 4, 24], ce_m367), (9, 2, [(4, 10, 2)], [0, 4, 7, 11, 13, 15, 2, 8], [0, 12, 6, 8, 0, 16, 19, 27, 10, 0, 0, 4, 24, 2, 20], ce_m367), (2, 2, [], [0, 4, 7, 11, 13, 15, 2, 8], [0, 12, 0, 8, 0, 16, 19, 27, 10, 0, 6, 4, 24, 2, 20], ce_m367)]) (by decide +kernel) ce_p435 (ce_pc ce_p367 (ce_pc ce_p367 (ce_pc ce_p367 (ce_pc ce_p367 ce_pn))))
def ce_m562 : Nat → Nat → Int := ce_F 8 14 0x402011080200012090240490010001209200200201011002401000008442008000048240040000000249
theorem ce_p562 : rk_M 2 ce_m562 := ce_st (b1 := 2) (T := ce_m348) (rem := []) (rows := [0, 2, 5, 7, 12, 15, 11, 9]) (cols := [12, 19, 21, 25, 2, 4, 7, 8, 10, 15, 16, 22, 26, 28]) (L := [(0, 2, [(3, 5, 4), (5, 7, 1), (5, 8, 3), (1, 12, 4)], [0, 8, 5, 11, 2, 0, 12, 7], [0, 3, 13, 19, 10, 20, 15, 0, 0, 9, 16, 6, 0, 4], ce_m260), (3, 2, [(3, 5, 4), (5, 11, 2), (1, 12, 4)], [0, 7, 10, 2, 5, 0, 8, 12], [0, 12, 2, 0, 15, 5, 11, 7, 9, 21, 16, 0, 0, 19], ce_m256), (1, 2, [(3, 5, 4), (5, 6, 2), (1, 12, 4)], [0, 7, 10, 2, 5, 0, 8, 12], [0, 0, 10, 0, 15, 5, 0, 7, 9, 21, 16, 3, 0, 19], ce_m256), (2, 2, [(3, 5, 4), (1, 12, 4)], [0, 7, 10, 2, 5, 0, 8, 12], [0, 0, 0, 0, 15, 5, 11, 7, 9, 21, 16, 3, 0, 19], ce_m256)]) (by decide +kernel) ce_p348 (ce_pc ce_p260 (ce_pc ce_p256 (ce_pc ce_p256 (ce_pc ce_p256 ce_pn))))
def ce_m563 : Nat → Nat → Int := ce_F 8 14 0x49020044001044808004020004900804104000824100a080010200008200049000001048040000008049
theorem ce_p563 : rk_M 2 ce_m563 := ce_st (b1 := 2) (T := ce_m361) (rem := [(4, 12, 5)]) (rows := [0, 2, 8, 11, 6, 12, 15, 4]) (cols := [2, 12, 18, 6, 4, 11, 8, 22, 24, 14, 20, 17, 0, 27]) (L := [(1, 2, [(4, 3, 0), (4, 10, 2)], [0, 3, 4, 12, 9, 7, 10, 14], [9, 0, 21, 0, 15, 13, 7, 4, 23, 10, 0, 27, 25, 19], ce_m365), (5, 2, [(4, 9, 2)], [0, 8, 4, 7, 2, 12, 10, 14], [12, 0, 10, 8, 24, 0, 20, 16, 22, 0, 6, 19, 14, 27], ce_m365), (2, 2, [(4, 6, 0)], [0, 6, 11, 13, 2, 8, 14, 5], [18, 0, 0, 2, 11, 0, 0, 12, 22, 17, 8, 26, 4, 14], ce_m361), (0, 2, [], [0, 6, 11, 13, 2, 8, 14, 5], [0, 0, 0, 2, 11, 0, 18, 12, 22, 17, 8, 26, 4, 14], ce_m361)]) (by decide +kernel) ce_p361 (ce_pc ce_p365 (ce_pc ce_p365 (ce_pc ce_p361 (ce_pc ce_p361 ce_pn))))
def ce_m564 : Nat → Nat → Int := ce_F 8 14 0x24821020000800940a00024200120800024200100800048000a200009008041000009041000000008209
theorem ce_p564 : rk_M 2 ce_m564 := ce_st (b1 := 2) (T := ce_m362) (rem := [(1, 0, 2)]) (rows := [0, 4, 2, 7, 9, 14, 10, 12]) (cols := [0, 17, 2, 19, 6, 14, 10, 12, 4, 8, 23, 21, 24, 26]) (L := [(0, 2, [(3, 3, 2), (4, 13, 5)], [0, 2, 6, 0, 10, 4, 9, 13], [0, 17, 4, 10, 6, 20, 2, 8, 22, 24, 13, 18, 14], ce_m164), (1, 2, [(3, 3, 2), (5, 10, 3)], [0, 2, 4, 0, 9, 6, 10, 12], [0, 0, 2, 16, 8, 6, 4, 12, 10, 14, 0, 21, 18, 22], ce_m186), (3, 2, [(3, 3, 2), (4, 9, 5)], [0, 4, 2, 0, 7, 9, 12, 10], [0, 0, 2, 0, 20, 8, 12, 22, 4, 0, 15, 17, 19, 25], ce_m159), (5, 2, [(3, 3, 2)], [0, 4, 2, 0, 7, 9, 12, 10], [0, 0, 2, 0, 20, 0, 12, 22, 4, 8, 15, 17, 19, 25], ce_m159)]) (by decide +kernel) ce_p362 (ce_pc ce_p164 (ce_pc ce_p186 (ce_pc ce_p159 (ce_pc ce_p159 ce_pn))))
def ce_m565 : Nat → Nat → Int := ce_F 8 14 0x24808120000901020204020a000210201040202040008200210200001200049000001048040000008049
theorem ce_p565 : rk_M 2 ce_m565 := ce_st (b1 := 2) (T := ce_m428) (rem := [(4, 7, 2), (4, 11, 5)]) (rows := [0, 3, 5, 6, 8, 10, 12, 15]) (cols := [7, 13, 11, 3, 9, 23, 5, 0, 15, 16, 18, 0, 21, 25]) (L := [(0, 2, [(5, 3, 1), (5, 4, 2)], [0, 11, 3, 6, 5, 12, 9, 14], [0, 14, 13, 0, 0, 4, 25, 3, 21, 10, 9, 18, 17, 23], ce_m409), (1, 2, [(5, 8, 5)], [0, 5, 2, 7, 10, 13, 14, 9], [0, 0, 14, 7, 11, 3, 9, 4, 0, 17, 18, 13, 21, 23], ce_m488), (2, 2, [], [0, 2, 4, 7, 10, 9, 12, 15], [0, 0, 0, 2, 6, 5, 10, 8, 12, 17, 18, 15, 22, 21], ce_m471), (5, 2, [], [0, 8, 10, 3, 4, 13, 6, 14], [0, 0, 0, 10, 7, 0, 20, 8, 24, 3, 14, 17, 12, 26], ce_m352)]) (by decide +kernel) ce_p428 (ce_pc ce_p409 (ce_pc ce_p488 (ce_pc ce_p471 (ce_pc ce_p352 ce_pn))))
def ce_m566 : Nat → Nat → Int := ce_F 8 14 0x242410008012400241000248002201001002008208001080082200209000041000008241000000040209
theorem ce_p566 : rk_M 2 ce_m566 := ce_st (b1 := 2) (T := ce_m360) (rem := [(1, 0, 2)]) (rows := [0, 4, 2, 7, 9, 10, 12, 15]) (cols := [0, 17, 2, 21, 6, 8, 25, 14, 4, 10, 19, 12, 22, 26]) (L := [(0, 2, [(5, 8, 1), (5, 11, 6)], [0, 9, 7, 2, 4, 13, 11, 14], [0, 2, 7, 8, 5, 10, 16, 19, 0, 21, 14, 0, 12, 24], ce_m388), (1, 2, [(5, 10, 3)], [0, 6, 2, 9, 5, 12, 14, 11], [0, 0, 4, 20, 10, 7, 14, 12, 2, 8, 0, 18, 17, 23], ce_m455), (3, 2, [(5, 12, 6)], [0, 4, 2, 7, 9, 10, 12, 15], [0, 0, 2, 0, 6, 8, 23, 14, 4, 10, 19, 12, 0, 26], ce_m360), (6, 2, [], [0, 4, 2, 7, 9, 10, 12, 15], [0, 0, 2, 0, 6, 8, 0, 14, 4, 10, 19, 12, 22, 26], ce_m360)]) (by decide +kernel) ce_p360 (ce_pc ce_p388 (ce_pc ce_p455 (ce_pc ce_p360 (ce_pc ce_p360 ce_pn))))
def ce_m567 : Nat → Nat → Int := ce_F 8 14 0x45048000801008240024020000a400201000290008008002081200041048001000241040040000000249
theorem ce_p567 : rk_M 2 ce_m567 := ce_st (b1 := 2) (T := ce_m350) (rem := []) (rows := [0, 3, 5, 6, 8, 10, 12, 14]) (cols := [3, 8, 20, 28, 5, 7, 11, 12, 15, 17, 19, 22, 24, 26]) (L := [(0, 2, [(5, 6, 1), (5, 8, 3)], [0, 14, 8, 13, 5, 3, 6, 10], [0, 9, 24, 22, 20, 4, 0, 3, 0, 19, 15, 17, 11, 7], ce_m401), (2, 2, [(4, 7, 1), (5, 11, 3)], [0, 3, 5, 6, 8, 10, 12, 14], [0, 12, 0, 23, 5, 7, 11, 0, 15, 17, 19, 0, 24, 26], ce_m350), (3, 2, [], [0, 3, 7, 4, 10, 8, 12, 14], [0, 12, 0, 0, 3, 11, 5, 18, 7, 15, 9, 16, 22, 20], ce_m462), (1, 2, [], [0, 3, 5, 6, 8, 10, 12, 14], [0, 0, 0, 0, 5, 7, 11, 12, 15, 17, 19, 22, 24, 26], ce_m350)]) (by decide +kernel) ce_p350 (ce_pc ce_p401 (ce_pc ce_p350 (ce_pc ce_p462 (ce_pc ce_p350 ce_pn))))
def ce_m568 : Nat → Nat → Int := ce_F 8 14 0x210481400000002452200042401002209010050000009200088000000208088000040041040000040209
theorem ce_p568 : rk_M 2 ce_m568 := ce_st (b1 := 2) (T := ce_m364) (rem := [(1, 0, 1)]) (rows := [0, 3, 4, 6, 9, 10, 12, 14]) (cols := [0, 10, 3, 18, 5, 8, 26, 12, 7, 15, 17, 20, 22, 25]) (L := [(0, 2, [(5, 2, 1), (5, 4, 3)], [0, 10, 5, 3, 14, 6, 9, 12], [0, 10, 0, 9, 0, 15, 16, 5, 24, 13, 3, 19, 20, 26], ce_m354), (1, 2, [(5, 6, 5)], [0, 10, 9, 2, 15, 5, 12, 7], [0, 0, 6, 10, 13, 18, 0, 25, 14, 8, 2, 4, 21, 23], ce_m355), (3, 2, [(5, 9, 6)], [0, 7, 5, 10, 14, 12, 2, 8], [0, 0, 22, 0, 7, 11, 30, 3, 5, 0, 18, 15, 20, 16], ce_m346), (6, 2, [], [0, 7, 5, 10, 14, 12, 2, 8], [0, 0, 22, 0, 7, 11, 0, 3, 5, 31, 18, 15, 20, 16], ce_m346)]) (by decide +kernel) ce_p364 (ce_pc ce_p354 (ce_pc ce_p355 (ce_pc ce_p346 (ce_pc ce_p346 ce_pn))))
def ce_m569 : Nat → Nat → Int := ce_F 8 14 0x49200000900040841020000200a081008212000008041240000040212040008001040240040000000249
theorem ce_p569 : rk_M 2 ce_m569 := ce_st (b1 := 2) (T := ce_m351) (rem := []) (rows := [0, 3, 7, 11, 12, 4, 8, 14]) (cols := [7, 13, 22, 24, 3, 5, 9, 10, 15, 16, 19, 21, 27, 28]) (L := [(0, 2, [(5, 8, 1), (5, 10, 2)], [0, 14, 3, 10, 7, 4, 8, 12], [0, 9, 16, 22, 13, 19, 3, 10, 0, 4, 0, 7, 20, 15], ce_m478), (1, 2, [(5, 11, 3)], [0, 3, 14, 5, 10, 8, 12, 6], [0, 0, 18, 20, 7, 9, 23, 16, 5, 13, 3, 0, 11, 15], ce_m406), (2, 2, [(5, 7, 3)], [0, 2, 6, 10, 13, 5, 9, 15], [0, 0, 0, 10, 2, 4, 8, 0, 14, 17, 18, 20, 26, 29], ce_m351), (3, 2, [], [0, 2, 6, 10, 13, 5, 9, 15], [0, 0, 0, 0, 2, 4, 8, 11, 14, 17, 18, 20, 26, 29], ce_m351)]) (by decide +kernel) ce_p351 (ce_pc ce_p478 (ce_pc ce_p406 (ce_pc ce_p351 (ce_pc ce_p351 ce_pn))))
def ce_m570 : Nat → Nat → Int := ce_F 8 14 0x29200900001101041100020028001100020a000440040080041200041008201000008208200000041041
theorem ce_p570 : rk_M 2 ce_m570 := ce_st (b1 := 2) (T := ce_m403) (rem := [(1, 0, 2), (1, 6, 7)]) (rows := [0, 5, 3, 11, 6, 8, 14, 12]) (cols := [0, 9, 16, 3, 25, 5, 0, 13, 11, 18, 7, 14, 23, 20]) (L := [(0, 2, [(5, 8, 2), (5, 10, 6)], [0, 8, 6, 11, 3, 13, 14, 4], [0, 12, 7, 2, 21, 18, 10, 14, 0, 9, 0, 5, 17, 26], ce_m361), (6, 2, [(4, 12, 4)], [0, 3, 7, 5, 12, 10, 8, 14], [0, 3, 11, 7, 15, 5, 0, 13, 8, 19, 17, 22, 0, 21], ce_m460), (4, 2, [(4, 9, 2)], [0, 8, 6, 11, 3, 13, 14, 4], [0, 12, 9, 2, 0, 18, 0, 14, 6, 0, 11, 5, 17, 26], ce_m361), (2, 2, [], [0, 8, 6, 11, 3, 13, 14, 4], [0, 12, 0, 2, 0, 18, 0, 14, 6, 9, 11, 5, 17, 26], ce_m361)]) (by decide +kernel) ce_p403 (ce_pc ce_p361 (ce_pc ce_p460 (ce_pc ce_p361 (ce_pc ce_p361 ce_pn))))
def ce_m571 : Nat → Nat → Int := ce_F 8 14 0x28120100100a00a010040211010001200200049001040000208240041048000000208088000000000049
theorem ce_p571 : rk_M 2 ce_m571 := ce_st (b1 := 2) (T := ce_m369) (rem := [(4, 13, 2)]) (rows := [0, 2, 5, 12, 7, 11, 8, 14]) (cols := [21, 23, 24, 6, 3, 17, 13, 4, 9, 10, 15, 19, 27]) (L := [(0, 2, [(5, 11, 1)], [0, 5, 7, 3, 9, 10, 12, 14], [0, 22, 10, 3, 6, 5, 13, 9, 17, 21, 15, 0, 19, 24], ce_m400), (1, 2, [(5, 12, 2)], [0, 2, 5, 12, 7, 11, 8, 14], [0, 0, 26, 6, 3, 17, 13, 4, 9, 10, 15, 19, 0, 24], ce_m369), (2, 2, [], [0, 2, 5, 12, 7, 11, 8, 14], [0, 0, 0, 6, 3, 17, 13, 4, 9, 10, 15, 19, 27, 24], ce_m369)]) (by decide +kernel) ce_p369 (ce_pc ce_p400 (ce_pc ce_p369 (ce_pc ce_p369 ce_pn)))
def ce_m572 : Nat → Nat → Int := ce_F 8 14 0x211080401002290080008280408001201000049001008000208240001248000001200088000000000049
theorem ce_p572 : rk_M 2 ce_m572 := ce_st (b1 := 2) (T := ce_m368) (rem := [(4, 13, 2)]) (rows := [0, 4, 3, 11, 9, 13, 14, 6]) (cols := [19, 27, 20, 8, 7, 11, 13, 5, 3, 16, 14, 23, 25]) (L := [(0, 2, [(5, 12, 1)], [0, 5, 11, 3, 7, 8, 15, 12], [0, 18, 2, 5, 10, 7, 21, 12, 25, 15, 27, 9, 0, 22], ce_m361), (2, 2, [(4, 11, 1)], [0, 4, 8, 2, 6, 11, 14, 13], [0, 8, 0, 4, 11, 2, 18, 12, 22, 16, 26, 0, 20, 25], ce_m361), (1, 2, [], [0, 4, 8, 2, 6, 11, 14, 13], [0, 0, 0, 4, 11, 2, 18, 12, 22, 16, 26, 8, 20, 25], ce_m361)]) (by decide +kernel) ce_p368 (ce_pc ce_p361 (ce_pc ce_p361 (ce_pc ce_p361 ce_pn)))
def ce_m573 : Nat → Nat → Int := ce_F 8 14 0x24024800004820804000900200a440002280001400001001201040002010208000008041040008040009
theorem ce_p573 : rk_M 2 ce_m573 := ce_st (b1 := 2) (T := ce_m369) (rem := [(4, 13, 9)]) (rows := [0, 4, 3, 8, 10, 15, 13, 6]) (cols := [16, 7, 8, 5, 14, 10, 26, 12, 2, 20, 24, 22, 18]) (L := [(1, 2, [(4, 6, 5), (4, 9, 8)], [0, 7, 10, 3, 14, 8, 4, 13], [9, 0, 3, 24, 21, 5, 0, 19, 23, 0, 11, 16, 27, 14], ce_m366), (9, 2, [(4, 2, 0)], [0, 8, 3, 6, 10, 15, 5, 12], [8, 0, 0, 3, 22, 4, 18, 24, 12, 0, 20, 17, 27, 15], ce_m372), (6, 2, [(4, 7, 0)], [0, 4, 3, 6, 8, 11, 15, 12], [12, 0, 4, 3, 8, 6, 0, 0, 14, 0, 19, 22, 21, 28], ce_m353), (0, 2, [], [0, 4, 3, 6, 8, 11, 15, 12], [0, 0, 4, 3, 8, 6, 0, 12, 14, 0, 19, 22, 21, 28], ce_m353)]) (by decide +kernel) ce_p369 (ce_pc ce_p366 (ce_pc ce_p372 (ce_pc ce_p353 (ce_pc ce_p353 ce_pn))))
def ce_m574 : Nat → Nat → Int := ce_F 8 14 0x281209000008242208000008002091000200202048040000248040000240208001000240040009000041
theorem ce_p574 : rk_M 2 ce_m574 := ce_st (b1 := 2) (T := ce_m418) (rem := [(1, 8, 6), (1, 9, 7)]) (rows := [0, 2, 4, 6, 9, 13, 14, 10]) (cols := [2, 4, 21, 8, 14, 6, 12, 16, 0, 0, 10, 25, 18, 22]) (L := [(8, 2, [(4, 5, 0), (4, 11, 2), (4, 13, 9)], [0, 8, 14, 7, 12, 10, 4, 2], [8, 24, 10, 21, 13, 0, 18, 14, 0, 2, 6, 0, 5], ce_m381), (9, 2, [], [0, 5, 2, 8, 6, 11, 12, 14], [15, 2, 20, 4, 9, 7, 12, 10, 0, 0, 17, 18, 22, 24], ce_m391), (0, 2, [(5, 4, 2)], [0, 8, 14, 7, 12, 10, 4, 2], [0, 24, 12, 21, 0, 8, 18, 14, 0, 0, 6, 10, 5, 2], ce_m381), (2, 2, [], [0, 8, 14, 7, 12, 10, 4, 2], [0, 24, 0, 21, 13, 8, 18, 14, 0, 0, 6, 10, 5, 2], ce_m381)]) (by decide +kernel) ce_p418 (ce_pc ce_p381 (ce_pc ce_p391 (ce_pc ce_p381 (ce_pc ce_p381 ce_pn))))
def ce_m575 : Nat → Nat → Int := ce_F 8 14 0x25008800800008a480040200009208001002081040008000241000041000408000009008040008000049
theorem ce_p575 : rk_M 2 ce_m575 := ce_st (b1 := 2) (T := ce_m485) (rem := [(1, 0, 1), (1, 1, 2), (1, 9, 6)]) (rows := [0, 4, 3, 6, 13, 8, 10, 14]) (cols := [0, 0, 16, 2, 14, 12, 6, 10, 9, 0, 5, 19, 22, 20]) (L := [(0, 2, [], [0, 12, 4, 3, 7, 9, 11, 15], [0, 16, 7, 11, 3, 5, 18, 25, 8, 27, 14, 13, 21, 23], ce_m357), (1, 2, [(5, 10, 9)], [0, 2, 5, 6, 13, 8, 11, 14], [0, 0, 8, 2, 14, 12, 4, 6, 17, 10, 0, 19, 22, 20], ce_m468), (9, 2, [(4, 4, 2)], [0, 13, 5, 2, 6, 8, 10, 14], [0, 0, 2, 10, 0, 4, 19, 24, 9, 0, 15, 12, 20, 22], ce_m357), (2, 2, [], [0, 13, 5, 2, 6, 8, 10, 14], [0, 0, 0, 10, 2, 4, 19, 24, 9, 0, 15, 12, 20, 22], ce_m357)]) (by decide +kernel) ce_p485 (ce_pc ce_p357 (ce_pc ce_p468 (ce_pc ce_p357 (ce_pc ce_p357 ce_pn))))
def ce_m576 : Nat → Nat → Int := ce_F 8 14 0xa250008011440080040200409200001001082040000001248000208000088000040009040040200009
theorem ce_p576 : rk_M 2 ce_m576 := ce_st (b1 := 2) (T := ce_m424) (rem := [(1, 0, 1), (1, 1, 2)]) (rows := [0, 2, 5, 6, 8, 10, 12, 14]) (cols := [0, 0, 2, 4, 13, 14, 17, 22, 6, 9, 24, 11, 18, 21]) (L := [(0, 2, [], [0, 14, 5, 2, 9, 6, 11, 13], [0, 13, 10, 14, 4, 2, 6, 22, 25, 9, 27, 17, 21, 18], ce_m358), (1, 2, [(5, 9, 7), (5, 11, 10)], [0, 2, 5, 10, 8, 13, 14, 6], [0, 0, 10, 6, 15, 18, 31, 22, 4, 0, 24, 0, 16, 21], ce_m346), (7, 2, [(5, 13, 10)], [0, 2, 5, 10, 8, 13, 14, 6], [0, 0, 10, 6, 15, 18, 31, 0, 4, 23, 20, 25, 16], ce_m346), (10, 2, [], [0, 2, 5, 10, 8, 13, 14, 6], [0, 0, 10, 6, 15, 18, 31, 0, 4, 23, 0, 25, 16, 21], ce_m346)]) (by decide +kernel) ce_p424 (ce_pc ce_p358 (ce_pc ce_p346 (ce_pc ce_p346 (ce_pc ce_p346 ce_pn))))
def ce_m577 : Nat → Nat → Int := ce_F 8 14 0x28148800000824004004004820020005100008a00000008a208000088001200000041001200000208009
theorem ce_p577 : rk_M 2 ce_m577 := ce_st (b1 := 2) (T := ce_m420) (rem := [(1, 0, 5), (1, 1, 1)]) (rows := [0, 3, 4, 10, 12, 7, 9, 14]) (cols := [0, 0, 3, 10, 12, 17, 5, 24, 7, 8, 19, 15, 21, 23]) (L := [(0, 2, [], [0, 3, 4, 8, 10, 12, 7, 14], [0, 5, 3, 6, 8, 18, 11, 24, 13, 16, 15, 21, 26, 23], ce_m368), (1, 2, [(5, 8, 7)], [0, 13, 4, 2, 6, 10, 9, 14], [0, 0, 23, 4, 10, 6, 3, 8, 0, 16, 15, 13, 20, 19], ce_m361), (7, 2, [(4, 12, 5)], [0, 12, 5, 3, 7, 11, 8, 15], [0, 0, 22, 5, 11, 21, 2, 0, 8, 17, 14, 12, 0, 18], ce_m361), (5, 2, [], [0, 12, 5, 3, 7, 11, 8, 15], [0, 0, 22, 5, 11, 0, 2, 0, 8, 17, 14, 12, 21, 18], ce_m361)]) (by decide +kernel) ce_p420 (ce_pc ce_p368 (ce_pc ce_p361 (ce_pc ce_p361 (ce_pc ce_p361 ce_pn))))
def ce_m578 : Nat → Nat → Int := ce_F 8 14 0x250408001008012080048202008408001040048001009000040240001211000000201008040000000049
theorem ce_p578 : rk_M 2 ce_m578 := ce_st (b1 := 2) (T := ce_m353) (rem := []) (rows := [0, 5, 3, 9, 10, 7, 12, 15]) (cols := [9, 21, 28, 5, 3, 6, 13, 11, 15, 17, 19, 23, 24, 27]) (L := [(1, 2, [(4, 6, 0), (5, 11, 2)], [0, 4, 2, 8, 11, 6, 13, 14], [12, 0, 23, 4, 2, 7, 0, 10, 14, 16, 18, 0, 25, 26], ce_m353), (2, 2, [], [0, 7, 5, 3, 11, 12, 8, 14], [5, 0, 0, 9, 3, 12, 15, 17, 7, 19, 11, 21, 25, 22], ce_m410), (0, 2, [], [0, 4, 2, 8, 11, 6, 13, 14], [0, 0, 0, 4, 2, 7, 12, 10, 14, 16, 18, 22, 25, 26], ce_m353)]) (by decide +kernel) ce_p353 (ce_pc ce_p353 (ce_pc ce_p410 (ce_pc ce_p353 ce_pn)))
def ce_m579 : Nat → Nat → Int := ce_F 8 14 0x29200000100848040004000920100004100100a008010440008000000288008001000048040000000049
theorem ce_p579 : rk_M 2 ce_m579 := ce_st (b1 := 2) (T := ce_m437) (rem := [(4, 5, 1), (4, 13, 2)]) (rows := [0, 10, 3, 13, 5, 14, 6, 8]) (cols := [22, 5, 14, 16, 2, 0, 8, 7, 13, 24, 21, 19, 11]) (L := [(0, 2, [(5, 10, 2)], [0, 6, 10, 9, 14, 12, 3, 5], [0, 13, 9, 6, 16, 24, 23, 4, 21, 18, 0, 10, 14, 3], ce_m431), (1, 2, [], [0, 3, 8, 5, 14, 7, 10, 12], [0, 0, 20, 3, 7, 18, 11, 17, 15, 8, 5, 12, 25, 22], ce_m433), (2, 2, [], [0, 8, 14, 2, 4, 11, 12, 7], [0, 0, 0, 4, 11, 22, 27, 29, 2, 7, 16, 15, 8, 13], ce_m351)]) (by decide +kernel) ce_p437 (ce_pc ce_p431 (ce_pc ce_p433 (ce_pc ce_p351 ce_pn)))
def ce_m580 : Nat → Nat → Int := ce_F 8 14 0x249080000009008201000090002401000050010200008000280200001200208040001040040000000049
theorem ce_p580 : rk_M 2 ce_m580 := ce_st (b1 := 2) (T := ce_m434) (rem := [(1, 0, 1), (1, 2, 5)]) (rows := [0, 2, 9, 7, 11, 5, 12, 14]) (cols := [0, 9, 0, 11, 4, 12, 2, 16, 19, 20, 23, 14, 6, 24]) (L := [(0, 2, [(5, 6, 2)], [0, 4, 11, 14, 3, 9, 6, 13], [0, 15, 9, 5, 12, 10, 0, 18, 23, 2, 7, 26, 16, 20], ce_m369), (2, 2, [], [0, 5, 3, 15, 11, 8, 7, 12], [0, 11, 0, 5, 13, 25, 9, 3, 7, 19, 23, 27, 17, 21], ce_m369), (1, 2, [], [0, 4, 11, 14, 3, 9, 6, 13], [0, 0, 0, 5, 12, 10, 8, 18, 23, 2, 7, 26, 16, 20], ce_m369)]) (by decide +kernel) ce_p434 (ce_pc ce_p369 (ce_pc ce_p369 (ce_pc ce_p369 ce_pn)))
def ce_m581 : Nat → Nat → Int := ce_F 8 14 0x24a400000001200048008200048001040041042000000208240000400010440080002008040000000049
theorem ce_p581 : rk_M 2 ce_m581 := ce_st (b1 := 2) (T := ce_m375) (rem := [(1, 1, 6)]) (rows := [0, 2, 5, 8, 7, 14, 11, 13]) (cols := [14, 0, 17, 4, 6, 8, 3, 24, 23, 20, 19, 12, 11, 27]) (L := [(1, 2, [], [0, 7, 8, 5, 2, 10, 14, 13], [21, 0, 22, 9, 7, 11, 4, 17, 2, 15, 12, 25, 18, 26], ce_m372), (0, 2, [(5, 3, 2)], [0, 5, 8, 3, 6, 13, 15, 10], [0, 0, 8, 0, 3, 11, 12, 7, 20, 5, 18, 25, 14, 22], ce_m369), (2, 2, [], [0, 5, 8, 3, 6, 13, 15, 10], [0, 0, 0, 9, 3, 11, 12, 7, 20, 5, 18, 25, 14, 22], ce_m369)]) (by decide +kernel) ce_p375 (ce_pc ce_p372 (ce_pc ce_p369 (ce_pc ce_p369 ce_pn)))
def ce_m582 : Nat → Nat → Int := ce_F 8 14 0x241000208008208001001080248000000441040000000008088200000050009000000209000000001041
theorem ce_p582 : rk_M 2 ce_m582 := ce_st (b1 := 2) (T := ce_m376) (rem := [(1, 2, 1)]) (rows := [0, 3, 4, 6, 8, 10, 14, 13]) (cols := [14, 4, 0, 6, 17, 3, 8, 10, 12, 24, 20, 23, 19, 27]) (L := [(2, 2, [], [0, 11, 2, 4, 6, 8, 12, 15], [2, 6, 0, 14, 17, 13, 4, 8, 10, 22, 18, 21, 25, 26], ce_m374), (0, 2, [(5, 4, 1)], [0, 10, 3, 5, 7, 9, 15, 12], [0, 7, 0, 17, 0, 2, 5, 9, 11, 25, 21, 18, 22, 26], ce_m374), (4, 2, [], [0, 10, 3, 5, 7, 9, 15, 12], [0, 7, 0, 17, 0, 2, 5, 9, 11, 25, 21, 18, 22, 26], ce_m374)]) (by decide +kernel) ce_p376 (ce_pc ce_p374 (ce_pc ce_p374 (ce_pc ce_p374 ce_pn)))
def ce_m583 : Nat → Nat → Int := ce_F 8 13 0x8241204008029008100a200001240048408040200248001000201081201008048008000000249
theorem ce_p583 : rk_M 2 ce_m583 := ce_st (b1 := 2) (T := ce_m378) (rem := [(1, 0, 1)]) (rows := [0, 3, 4, 9, 7, 14, 12, 10]) (cols := [0, 12, 18, 24, 3, 5, 10, 15, 7, 16, 21, 9, 23]) (L := [(0, 2, [(5, 11, 3)], [0, 12, 7, 9, 5, 3, 15, 10], [0, 3, 11, 17, 22, 15, 7, 18, 21, 9, 5, 0, 13], ce_m438), (3, 2, [(4, 6, 1), (4, 9, 2)], [0, 9, 5, 3, 6, 15, 10, 12], [0, 3, 17, 0, 10, 15, 0, 5, 7, 0, 20, 23, 9], ce_m378), (1, 2, [(5, 7, 2)], [0, 9, 5, 3, 6, 15, 10, 12], [0, 0, 4, 0, 10, 15, 3, 0, 7, 17, 20, 23, 9], ce_m378), (2, 2, [], [0, 9, 5, 3, 6, 15, 10, 12], [0, 0, 0, 0, 10, 15, 3, 5, 7, 17, 20, 23, 9], ce_m378)]) (by decide +kernel) ce_p378 (ce_pc ce_p438 (ce_pc ce_p378 (ce_pc ce_p378 (ce_pc ce_p378 ce_pn))))
def ce_m584 : Nat → Nat → Int := ce_F 8 13 0x40490048092400001209240001008240410200010411008010440080200041208008000000249
theorem ce_p584 : rk_M 2 ce_m584 := ce_st (b1 := 2) (T := ce_m354) (rem := []) (rows := [0, 2, 7, 5, 9, 12, 15, 11]) (cols := [18, 21, 23, 25, 2, 5, 6, 8, 11, 12, 14, 16, 26]) (L := [(0, 2, [(3, 6, 5), (5, 7, 3), (5, 9, 1), (1, 12, 5)], [0, 4, 7, 9, 10, 2, 0, 13], [0, 5, 3, 19, 10, 13, 14, 0, 21, 0, 6, 8], ce_m224), (1, 2, [(3, 6, 5), (5, 8, 2), (4, 11, 3), (1, 12, 5)], [0, 4, 3, 10, 8, 6, 0, 12], [0, 0, 8, 6, 2, 13, 18, 16, 0, 4, 14], ce_m180), (2, 2, [(3, 6, 5), (4, 10, 3), (1, 12, 5)], [0, 4, 3, 10, 8, 6, 0, 12], [0, 0, 0, 14, 2, 13, 18, 16, 9, 4, 0, 6], ce_m180), (3, 2, [(3, 6, 5), (1, 12, 5)], [0, 4, 3, 10, 8, 6, 0, 12], [0, 0, 0, 0, 2, 13, 18, 16, 9, 4, 14, 6], ce_m180)]) (by decide +kernel) ce_p354 (ce_pc ce_p224 (ce_pc ce_p180 (ce_pc ce_p180 (ce_pc ce_p180 ce_pn))))
def ce_m585 : Nat → Nat → Int := ce_F 8 13 0x9204900000920044800a00a010201401040240048400201000240009040001209000000008049
theorem ce_p585 : rk_M 2 ce_m585 := ce_st (b1 := 2) (T := ce_m440) (rem := [(1, 0, 2), (1, 1, 3)]) (rows := [0, 4, 2, 7, 8, 12, 10, 15]) (cols := [0, 0, 8, 2, 6, 23, 12, 14, 4, 10, 16, 19, 20]) (L := [(0, 2, [(5, 9, 5), (4, 12, 2)], [0, 5, 3, 10, 7, 14, 9, 12], [0, 4, 17, 3, 15, 6, 9, 11, 13, 0, 19, 20], ce_m511), (1, 2, [(4, 8, 2), (5, 10, 5)], [0, 4, 2, 7, 8, 12, 10, 15], [0, 0, 4, 2, 6, 17, 12, 14, 0, 10, 0, 19, 20], ce_m440), (5, 2, [], [0, 2, 4, 7, 10, 12, 8, 14], [0, 0, 16, 2, 7, 0, 8, 11, 4, 12, 15, 19, 20], ce_m505), (2, 2, [], [0, 4, 2, 7, 8, 12, 10, 15], [0, 0, 0, 2, 6, 0, 12, 14, 4, 10, 16, 19, 20], ce_m440)]) (by decide +kernel) ce_p440 (ce_pc ce_p511 (ce_pc ce_p440 (ce_pc ce_p505 (ce_pc ce_p440 ce_pn))))
def ce_m586 : Nat → Nat → Int := ce_F 8 13 0x450010041010490009000490041000440410040041010401040009200040009208008000000249
theorem ce_p586 : rk_M 2 ce_m586 := ce_st (b1 := 2) (T := ce_m355) (rem := []) (rows := [0, 3, 5, 6, 8, 11, 12, 14]) (cols := [3, 22, 24, 27, 5, 7, 9, 11, 13, 14, 16, 18, 21]) (L := [(0, 2, [(5, 6, 1), (5, 7, 2)], [0, 10, 15, 3, 4, 12, 8, 7], [0, 13, 14, 21, 4, 11, 0, 0, 19, 7, 8, 3, 16], ce_m511), (1, 2, [(5, 9, 3), (5, 11, 2)], [0, 2, 4, 7, 9, 10, 13, 15], [0, 0, 18, 14, 4, 6, 8, 10, 12, 0, 17, 0, 20], ce_m355), (2, 2, [(5, 10, 3)], [0, 2, 4, 7, 9, 10, 13, 15], [0, 0, 0, 16, 4, 6, 8, 10, 12, 15, 0, 19, 20], ce_m355), (3, 2, [], [0, 2, 4, 7, 9, 10, 13, 15], [0, 0, 0, 0, 4, 6, 8, 10, 12, 15, 17, 19, 20], ce_m355)]) (by decide +kernel) ce_p355 (ce_pc ce_p511 (ce_pc ce_p355 (ce_pc ce_p355 (ce_pc ce_p355 ce_pn))))
def ce_m587 : Nat → Nat → Int := ce_F 8 13 0x410440041048402001208002480200210208008050040201001041200040048208008000000249
theorem ce_p587 : rk_M 2 ce_m587 := ce_st (b1 := 2) (T := ce_m381) (rem := [(1, 3, 7)]) (rows := [0, 3, 5, 7, 11, 12, 14, 8]) (cols := [3, 17, 24, 0, 5, 11, 15, 13, 7, 19, 9, 21, 23]) (L := [(3, 2, [(4, 8, 0), (4, 11, 1), (4, 12, 2)], [0, 2, 4, 6, 10, 13, 15, 9], [6, 20, 22, 0, 4, 10, 14, 12, 0, 18, 8], ce_m381), (0, 2, [(5, 6, 2)], [0, 12, 4, 14, 6, 3, 9, 10], [0, 21, 3, 0, 6, 4, 0, 10, 12, 16, 19, 14, 9], ce_m509), (2, 2, [(4, 7, 1)], [0, 2, 4, 6, 10, 13, 15, 9], [0, 12, 0, 0, 4, 10, 14, 0, 6, 18, 8, 20, 22], ce_m381), (1, 2, [], [0, 2, 4, 6, 10, 13, 15, 9], [0, 0, 0, 0, 4, 10, 14, 12, 6, 18, 8, 20, 22], ce_m381)]) (by decide +kernel) ce_p381 (ce_pc ce_p381 (ce_pc ce_p509 (ce_pc ce_p381 (ce_pc ce_p381 ce_pn))))
def ce_m588 : Nat → Nat → Int := ce_F 8 13 0x28200920008820808800820a080200240010048002400281000240009040001241000000001049
theorem ce_p588 : rk_M 2 ce_m588 := ce_st (b1 := 2) (T := ce_m385) (rem := [(1, 0, 2)]) (rows := [0, 4, 2, 7, 8, 12, 10, 15]) (cols := [0, 17, 6, 2, 21, 10, 12, 14, 4, 8, 18, 22, 25]) (L := [(0, 2, [(3, 3, 2), (5, 9, 4), (4, 10, 2)], [0, 9, 4, 0, 6, 2, 11, 13], [0, 7, 2, 10, 19, 13, 23, 9, 4, 0, 0, 20, 16], ce_m173), (1, 2, [(3, 3, 2), (4, 8, 2), (5, 11, 4)], [0, 9, 4, 0, 6, 2, 11, 13], [0, 0, 4, 10, 21, 13, 23, 9, 0, 18, 2, 0, 16], ce_m173), (2, 2, [(3, 3, 2)], [0, 3, 5, 0, 6, 10, 9, 13], [0, 0, 0, 3, 6, 5, 9, 15, 11, 17, 12, 19, 20], ce_m228), (4, 2, [(3, 3, 2)], [0, 9, 4, 0, 6, 2, 11, 13], [0, 0, 0, 10, 0, 13, 23, 9, 4, 18, 2, 20, 16], ce_m173)]) (by decide +kernel) ce_p385 (ce_pc ce_p173 (ce_pc ce_p173 (ce_pc ce_p228 (ce_pc ce_p173 ce_pn))))
def ce_m589 : Nat → Nat → Int := ce_F 8 13 0x402490040089000009041201240000208202040008208200200240401048001240040000000249
theorem ce_p589 : rk_M 2 ce_m589 := ce_st (b1 := 2) (T := ce_m384) (rem := [(1, 1, 1)]) (rows := [0, 3, 6, 9, 11, 5, 14, 12]) (cols := [22, 0, 20, 24, 11, 5, 3, 7, 18, 16, 13, 15, 9]) (L := [(1, 2, [(5, 12, 3)], [0, 14, 7, 3, 4, 13, 11, 8], [3, 0, 18, 22, 7, 20, 15, 16, 5, 12, 9, 10], ce_m439), (3, 2, [(4, 8, 0), (4, 9, 2)], [0, 2, 7, 8, 10, 4, 15, 13], [19, 0, 17, 0, 10, 4, 2, 6, 0, 0, 12, 14, 8], ce_m384), (0, 2, [(5, 4, 2)], [0, 2, 7, 8, 10, 4, 15, 13], [0, 0, 11, 0, 0, 4, 2, 6, 19, 17, 12, 14, 8], ce_m384), (2, 2, [], [0, 2, 7, 8, 10, 4, 15, 13], [0, 0, 0, 0, 10, 4, 2, 6, 19, 17, 12, 14, 8], ce_m384)]) (by decide +kernel) ce_p384 (ce_pc ce_p439 (ce_pc ce_p384 (ce_pc ce_p384 (ce_pc ce_p384 ce_pn))))
def ce_m590 : Nat → Nat → Int := ce_F 8 13 0x48204804004820224001020904020100a001008009000089008040201040001049000000040049
theorem ce_p590 : rk_M 2 ce_m590 := ce_st (b1 := 2) (T := ce_m383) (rem := [(1, 0, 2)]) (rows := [0, 4, 2, 6, 9, 10, 12, 14]) (cols := [0, 16, 4, 6, 10, 2, 25, 12, 8, 18, 20, 14, 23]) (L := [(0, 2, [(4, 10, 2), (5, 11, 6)], [0, 13, 9, 5, 6, 3, 14, 11], [0, 13, 7, 10, 20, 15, 22, 9, 5, 19, 0, 0, 2], ce_m439), (1, 2, [(4, 8, 2), (5, 9, 6)], [0, 8, 2, 14, 7, 10, 12, 5], [0, 0, 4, 13, 14, 6, 19, 11, 0, 0, 24, 2, 16], ce_m378), (6, 2, [], [0, 3, 8, 6, 5, 12, 11, 15], [0, 0, 13, 5, 3, 9, 0, 17, 6, 11, 14, 19, 21], ce_m507), (2, 2, [], [0, 8, 2, 14, 7, 10, 12, 5], [0, 0, 0, 13, 14, 6, 0, 11, 4, 18, 24, 2, 16], ce_m378)]) (by decide +kernel) ce_p383 (ce_pc ce_p439 (ce_pc ce_p378 (ce_pc ce_p507 (ce_pc ce_p378 ce_pn))))
def ce_m591 : Nat → Nat → Int := ce_F 8 13 0x409082040010492040008090408000208010208008400248000049200040001240200000001209
theorem ce_p591 : rk_M 2 ce_m591 := ce_st (b1 := 2) (T := ce_m449) (rem := [(1, 0, 2), (1, 1, 4)]) (rows := [0, 3, 5, 11, 6, 8, 14, 12]) (cols := [0, 0, 9, 12, 18, 3, 5, 7, 11, 14, 22, 16, 21]) (L := [(0, 2, [(5, 8, 4)], [0, 2, 12, 4, 11, 7, 9, 15], [0, 23, 2, 14, 6, 12, 4, 10, 0, 8, 16, 20, 19], ce_m454), (1, 2, [(4, 10, 3)], [0, 3, 7, 5, 8, 12, 14, 10], [0, 0, 3, 15, 13, 5, 9, 7, 10, 16, 0, 18, 21], ce_m514), (3, 2, [(5, 9, 4)], [0, 8, 13, 2, 5, 6, 10, 15], [0, 0, 4, 0, 8, 10, 19, 24, 7, 0, 12, 15, 20], ce_m357), (4, 2, [], [0, 8, 13, 2, 5, 6, 10, 15], [0, 0, 4, 0, 0, 10, 19, 24, 7, 9, 12, 15, 20], ce_m357)]) (by decide +kernel) ce_p449 (ce_pc ce_p454 (ce_pc ce_p514 (ce_pc ce_p357 (ce_pc ce_p357 ce_pn))))
def ce_m592 : Nat → Nat → Int := ce_F 8 13 0x412048200088042408008210040200240080240001200411000240008240001240040000001241
theorem ce_p592 : rk_M 2 ce_m592 := ce_st (b1 := 2) (T := ce_m392) (rem := [(1, 0, 2)]) (rows := [0, 4, 2, 6, 10, 9, 12, 15]) (cols := [0, 2, 17, 8, 21, 10, 12, 14, 4, 6, 19, 22, 25]) (L := [(0, 2, [(2, 3, 2), (5, 9, 4), (4, 11, 3)], [0, 7, 4, 0, 8, 10, 12, 3], [0, 6, 11, 22, 5, 21, 13, 3, 18, 0, 8, 0, 16], ce_m173), (4, 2, [(2, 3, 2), (4, 10, 2)], [0, 3, 5, 0, 9, 7, 10, 12], [0, 5, 9, 13, 0, 3, 11, 15, 7, 17, 0, 18, 21], ce_m263), (2, 2, [(2, 3, 2), (4, 8, 3)], [0, 7, 4, 0, 8, 10, 12, 3], [0, 6, 0, 18, 0, 21, 13, 3, 0, 4, 8, 22, 16], ce_m173), (3, 2, [(2, 3, 2)], [0, 7, 4, 0, 8, 10, 12, 3], [0, 6, 0, 0, 0, 21, 13, 3, 18, 4, 8, 22, 16], ce_m173)]) (by decide +kernel) ce_p392 (ce_pc ce_p173 (ce_pc ce_p263 (ce_pc ce_p173 (ce_pc ce_p173 ce_pn))))
def ce_m593 : Nat → Nat → Int := ce_F 8 13 0x48004a240081208008001210400041200002440001201040248000001240001280200000001209
theorem ce_p593 : rk_M 2 ce_m593 := ce_st (b1 := 2) (T := ce_m363) (rem := []) (rows := [0, 2, 4, 11, 6, 9, 12, 14]) (cols := [12, 10, 2, 25, 27, 7, 4, 8, 14, 19, 17, 20, 22]) (L := [(0, 2, [(2, 4, 2), (5, 8, 1), (5, 12, 3)], [0, 8, 10, 3, 0, 4, 7, 12], [0, 4, 6, 15, 21, 11, 18, 16, 0, 3, 8, 12], ce_m285), (1, 2, [(2, 4, 2), (5, 11, 4)], [0, 5, 3, 6, 0, 9, 10, 12], [0, 0, 5, 6, 12, 8, 19, 17, 2, 10, 21, 0, 15], ce_m255), (4, 2, [(2, 4, 2), (4, 9, 3)], [0, 2, 4, 13, 0, 7, 8, 10], [0, 0, 4, 22, 0, 9, 2, 6, 20, 0, 11, 14, 12], ce_m156), (3, 2, [(2, 4, 2)], [0, 2, 4, 13, 0, 7, 8, 10], [0, 0, 4, 0, 0, 9, 2, 6, 20, 22, 11, 14, 12], ce_m156)]) (by decide +kernel) ce_p363 (ce_pc ce_p285 (ce_pc ce_p255 (ce_pc ce_p156 (ce_pc ce_p156 ce_pn))))
def ce_m594 : Nat → Nat → Int := ce_F 8 13 0x41204900008804804800104040120008200a040008200240240280001200001208040000008241
theorem ce_p594 : rk_M 2 ce_m594 := ce_st (b1 := 2) (T := ce_m387) (rem := [(1, 0, 3)]) (rows := [0, 2, 8, 4, 7, 11, 12, 14]) (cols := [0, 4, 17, 12, 2, 21, 8, 14, 6, 18, 10, 22, 25]) (L := [(0, 2, [(3, 4, 3), (5, 10, 5), (4, 11, 3)], [0, 4, 2, 7, 0, 13, 11, 8], [0, 8, 12, 5, 22, 6, 10, 14, 3, 20, 0, 0, 16], ce_m187), (5, 2, [(3, 4, 3), (4, 9, 2)], [0, 2, 4, 6, 0, 8, 10, 13], [0, 6, 8, 4, 2, 0, 10, 18, 13, 0, 14, 16, 20], ce_m252), (2, 2, [(3, 4, 3), (4, 8, 3)], [0, 7, 8, 12, 0, 2, 4, 11], [0, 11, 0, 16, 18, 0, 3, 14, 0, 6, 24, 4, 13], ce_m156), (3, 2, [(3, 4, 3)], [0, 7, 8, 12, 0, 2, 4, 11], [0, 11, 0, 0, 18, 0, 3, 14, 16, 6, 24, 4, 13], ce_m156)]) (by decide +kernel) ce_p387 (ce_pc ce_p187 (ce_pc ce_p252 (ce_pc ce_p156 (ce_pc ce_p156 ce_pn))))
def ce_m595 : Nat → Nat → Int := ce_F 8 13 0x482440040042202011009042040040241041001000401041000008041040000201048008000049
theorem ce_p595 : rk_M 2 ce_m595 := ce_st (b1 := 2) (T := ce_m411) (rem := [(4, 12, 9)]) (rows := [0, 2, 6, 4, 14, 8, 11, 12]) (cols := [6, 2, 10, 4, 18, 8, 14, 13, 17, 20, 24, 22]) (L := [(2, 2, [(4, 6, 0), (5, 9, 7)], [0, 3, 4, 7, 14, 11, 8, 13], [9, 3, 0, 5, 6, 13, 0, 10, 14, 0, 17, 21, 18], ce_m526), (0, 2, [], [0, 2, 6, 4, 14, 13, 9, 10], [0, 8, 0, 2, 16, 10, 6, 12, 15, 5, 20, 23, 19], ce_m445), (1, 2, [(5, 9, 3)], [0, 2, 6, 4, 14, 8, 11, 12], [0, 0, 0, 4, 18, 8, 14, 13, 17, 0, 24, 22, 20], ce_m411), (9, 2, [], [0, 2, 6, 4, 14, 8, 11, 12], [0, 0, 0, 4, 18, 8, 14, 13, 17, 0, 24, 22, 20], ce_m411)]) (by decide +kernel) ce_p411 (ce_pc ce_p526 (ce_pc ce_p445 (ce_pc ce_p411 (ce_pc ce_p411 ce_pn))))
def ce_m596 : Nat → Nat → Int := ce_F 8 13 0x412048200090090408009040400200280201040208201000200280009200001240040000001241
theorem ce_p596 : rk_M 2 ce_m596 := ce_st (b1 := 2) (T := ce_m394) (rem := [(1, 0, 3)]) (rows := [0, 3, 7, 5, 10, 8, 12, 15]) (cols := [0, 5, 17, 22, 24, 3, 7, 13, 9, 19, 11, 21, 15]) (L := [(0, 2, [(5, 8, 3), (5, 10, 4)], [0, 5, 3, 8, 7, 13, 14, 11], [0, 5, 3, 13, 7, 19, 15, 9, 0, 17, 0, 23, 20], ce_m438), (3, 2, [(4, 11, 2)], [0, 3, 5, 7, 11, 8, 12, 15], [0, 7, 15, 0, 18, 3, 9, 5, 12, 11, 16, 0, 21], ce_m518), (4, 2, [(4, 9, 2)], [0, 7, 14, 3, 4, 9, 10, 12], [0, 21, 23, 0, 0, 5, 14, 16, 9, 0, 3, 10, 7], ce_m378), (2, 2, [], [0, 7, 14, 3, 4, 9, 10, 12], [0, 21, 0, 0, 0, 5, 14, 16, 9, 23, 3, 10, 7], ce_m378)]) (by decide +kernel) ce_p394 (ce_pc ce_p438 (ce_pc ce_p518 (ce_pc ce_p378 (ce_pc ce_p378 ce_pn))))
def ce_m597 : Nat → Nat → Int := ce_F 8 13 0x482049000081081048012200200400202001240009002041040240000240001001240000049001
theorem ce_p597 : rk_M 2 ce_m597 := ce_st (b1 := 2) (T := ce_m388) (rem := [(1, 0, 2)]) (rows := [0, 2, 4, 6, 8, 11, 12, 15]) (cols := [0, 2, 4, 6, 22, 21, 25, 14, 10, 8, 16, 18, 12]) (L := [(0, 2, [(5, 8, 4), (5, 9, 5), (5, 12, 6)], [0, 2, 8, 4, 14, 10, 12, 6], [0, 6, 18, 14, 23, 9, 12, 4, 0, 0, 10, 21], ce_m381), (4, 2, [(5, 11, 6)], [0, 5, 8, 6, 10, 13, 14, 3], [0, 13, 11, 19, 0, 3, 9, 7, 22, 4, 20, 0, 14], ce_m439), (5, 2, [(4, 10, 6)], [0, 2, 8, 4, 14, 10, 12, 6], [0, 6, 18, 14, 0, 0, 10, 4, 22, 8, 0, 21, 13], ce_m381), (6, 2, [], [0, 2, 8, 4, 14, 10, 12, 6], [0, 6, 18, 14, 0, 0, 0, 4, 22, 8, 10, 21, 13], ce_m381)]) (by decide +kernel) ce_p388 (ce_pc ce_p381 (ce_pc ce_p439 (ce_pc ce_p381 (ce_pc ce_p381 ce_pn))))
end
section
/-! the certificate, 4: written by wip/whole/emit.py -/
def ce_m598 : Nat → Nat → Int := ce_F 8 13 0x40a041200090089008001080048200082040240008200281040240000240000208240000208201
theorem ce_p598 : rk_M 2 ce_m598 := ce_st (b1 := 2) (T := ce_m396) (rem := [(1, 0, 2)]) (rows := [0, 3, 5, 7, 9, 11, 14, 13]) (cols := [0, 3, 5, 18, 7, 21, 11, 25, 9, 13, 17, 23, 15]) (L := [(0, 2, [(5, 8, 3), (5, 9, 5), (5, 12, 7)], [0, 4, 10, 12, 8, 2, 7, 14], [0, 10, 6, 13, 14, 18, 8, 21, 0, 0, 23, 4], ce_m381), (5, 2, [(5, 11, 7)], [0, 10, 8, 6, 13, 4, 3, 14], [0, 6, 14, 11, 8, 0, 17, 5, 2, 19, 22, 0, 12], ce_m438), (7, 2, [(5, 10, 3)], [0, 4, 10, 12, 8, 2, 7, 14], [0, 10, 6, 22, 14, 0, 8, 0, 12, 19, 0, 4, 20], ce_m381), (3, 2, [], [0, 4, 10, 12, 8, 2, 7, 14], [0, 10, 6, 0, 14, 0, 8, 0, 12, 19, 23, 4, 20], ce_m381)]) (by decide +kernel) ce_p396 (ce_pc ce_p381 (ce_pc ce_p438 (ce_pc ce_p381 (ce_pc ce_p381 ce_pn))))
def ce_m599 : Nat → Nat → Int := ce_F 8 13 0x209200041009208040208208200240208208009002008088002000280040001002208001002041
theorem ce_p599 : rk_M 2 ce_m599 := ce_st (b1 := 2) (T := ce_m404) (rem := [(4, 12, 8)]) (rows := [0, 2, 6, 4, 12, 8, 14, 11]) (cols := [6, 22, 2, 5, 17, 14, 8, 18, 20, 13, 10, 24]) (L := [(4, 2, [(4, 7, 0), (4, 10, 8)], [0, 2, 5, 6, 13, 8, 14, 11], [10, 18, 2, 5, 0, 7, 12, 0, 8, 15, 0, 20, 16], ce_m520), (8, 2, [(5, 3, 2)], [0, 2, 4, 6, 14, 9, 11, 13], [2, 17, 4, 0, 0, 14, 7, 10, 0, 13, 9, 20, 19], ce_m523), (0, 2, [], [0, 2, 5, 6, 14, 12, 10, 9], [0, 19, 6, 3, 0, 11, 12, 4, 0, 15, 9, 20, 17], ce_m533), (2, 2, [], [0, 2, 6, 4, 12, 8, 14, 11], [0, 22, 0, 5, 0, 14, 8, 18, 0, 13, 10, 24, 20], ce_m404)]) (by decide +kernel) ce_p404 (ce_pc ce_p520 (ce_pc ce_p523 (ce_pc ce_p533 (ce_pc ce_p404 ce_pn))))
def ce_m600 : Nat → Nat → Int := ce_F 8 13 0x490049000002081208001080410040041011040042000049041200040040000209200000208009
theorem ce_p600 : rk_M 2 ce_m600 := ce_st (b1 := 2) (T := ce_m459) (rem := [(1, 0, 2), (1, 7, 7)]) (rows := [0, 5, 3, 12, 9, 6, 15, 10]) (cols := [0, 16, 9, 11, 3, 22, 15, 0, 19, 7, 13, 20, 5]) (L := [(0, 2, [(5, 9, 1), (5, 10, 5), (5, 12, 7)], [0, 8, 2, 10, 4, 13, 15, 7], [0, 13, 6, 16, 10, 9, 19, 5, 20, 0, 0, 14], ce_m355), (7, 2, [(5, 8, 5), (4, 11, 1)], [0, 8, 2, 10, 4, 13, 15, 7], [0, 14, 6, 16, 10, 21, 19, 0, 0, 12, 8, 0, 4], ce_m355), (1, 2, [], [0, 5, 3, 12, 7, 8, 15, 10], [0, 0, 9, 11, 3, 20, 15, 0, 17, 7, 13, 18, 5], ce_m511), (5, 2, [], [0, 8, 2, 10, 4, 13, 15, 7], [0, 0, 6, 16, 10, 0, 19, 0, 20, 12, 8, 14, 4], ce_m355)]) (by decide +kernel) ce_p459 (ce_pc ce_p355 (ce_pc ce_p355 (ce_pc ce_p511 (ce_pc ce_p355 ce_pn))))
def ce_m601 : Nat → Nat → Int := ce_F 8 13 0x208450008008202401208201040208240082040010082081000208048000008240008000000049
theorem ce_p601 : rk_M 2 ce_m601 := ce_st (b1 := 2) (T := ce_m357) (rem := []) (rows := [0, 4, 2, 7, 9, 10, 15, 12]) (cols := [14, 21, 25, 2, 4, 8, 10, 6, 16, 12, 18, 23, 26]) (L := [(0, 2, [(5, 5, 1), (5, 6, 2)], [0, 4, 2, 7, 9, 10, 15, 12], [0, 9, 11, 2, 4, 0, 0, 6, 16, 12, 18, 23, 26], ce_m357), (1, 2, [(4, 10, 2)], [0, 4, 2, 7, 9, 10, 15, 12], [0, 0, 18, 2, 4, 8, 10, 6, 16, 12, 0, 23, 26], ce_m357), (2, 2, [], [0, 4, 2, 7, 9, 10, 15, 12], [0, 0, 0, 2, 4, 8, 10, 6, 16, 12, 18, 23, 26], ce_m357)]) (by decide +kernel) ce_p357 (ce_pc ce_p357 (ce_pc ce_p357 (ce_pc ce_p357 ce_pn)))
def ce_m602 : Nat → Nat → Int := ce_F 8 13 0x412248000041280048001002090200200050240000048240001000240200040001208001000049
theorem ce_p602 : rk_M 2 ce_m602 := ce_st (b1 := 2) (T := ce_m528) (rem := [(1, 0, 1), (1, 1, 2), (5, 12, 8)]) (rows := [0, 2, 4, 6, 10, 13, 8, 15]) (cols := [0, 0, 12, 2, 6, 14, 19, 17, 5, 8, 10, 20]) (L := [(0, 2, [(5, 9, 8), (4, 11, 2)], [0, 2, 11, 4, 8, 15, 6, 13], [0, 5, 18, 2, 14, 23, 8, 10, 7, 0, 20, 0, 16], ce_m459), (1, 2, [(5, 10, 8)], [0, 6, 3, 5, 12, 8, 11, 14], [0, 0, 4, 7, 3, 9, 15, 13, 10, 17, 0, 20, 23], ce_m440), (8, 2, [], [0, 7, 2, 4, 13, 9, 10, 15], [0, 0, 19, 6, 2, 8, 14, 12, 0, 16, 10, 21, 22], ce_m440), (2, 2, [], [0, 7, 2, 4, 13, 9, 10, 15], [0, 0, 0, 6, 2, 8, 14, 12, 0, 16, 10, 21, 22], ce_m440)]) (by decide +kernel) ce_p528 (ce_pc ce_p459 (ce_pc ce_p440 (ce_pc ce_p440 (ce_pc ce_p440 ce_pn))))
def ce_m603 : Nat → Nat → Int := ce_F 8 13 0x41480009041041001051000481000240410040010410401000201240000009001008000000049
theorem ce_p603 : rk_M 2 ce_m603 := ce_st (b1 := 2) (T := ce_m365) (rem := []) (rows := [0, 4, 2, 9, 11, 7, 12, 15]) (cols := [16, 25, 27, 4, 2, 6, 8, 10, 12, 14, 20, 19, 22]) (L := [(0, 2, [(5, 7, 2), (5, 8, 1)], [0, 5, 3, 8, 10, 6, 13, 14], [0, 12, 10, 5, 3, 7, 9, 0, 0, 15, 21, 18, 23], ce_m365), (1, 2, [(4, 10, 2)], [0, 5, 3, 8, 10, 6, 13, 14], [0, 0, 21, 5, 3, 7, 9, 11, 13, 15, 0, 18, 23], ce_m365), (2, 2, [], [0, 5, 3, 8, 10, 6, 13, 14], [0, 0, 0, 5, 3, 7, 9, 11, 13, 15, 21, 18, 23], ce_m365)]) (by decide +kernel) ce_p365 (ce_pc ce_p365 (ce_pc ce_p365 (ce_pc ce_p365 ce_pn)))
def ce_m604 : Nat → Nat → Int := ce_F 8 13 0x249200000280410280002401200202002480008040201040202008048000008240008008000049
theorem ce_p604 : rk_M 2 ce_m604 := ce_st (b1 := 2) (T := ce_m475) (rem := [(1, 1, 4), (1, 2, 5)]) (rows := [0, 6, 8, 12, 3, 4, 11, 14]) (cols := [20, 0, 0, 12, 10, 14, 2, 4, 6, 22, 9, 19, 16]) (L := [(1, 2, [(4, 8, 0), (4, 12, 9)], [0, 3, 14, 7, 10, 12, 9, 5], [3, 0, 25, 19, 20, 5, 13, 23, 0, 9, 15, 7], ce_m360), (2, 2, [], [0, 4, 6, 10, 3, 12, 9, 14], [16, 0, 0, 10, 8, 12, 6, 4, 2, 20, 18, 22, 14], ce_m453), (9, 2, [(4, 5, 0)], [0, 3, 14, 7, 10, 12, 9, 5], [5, 0, 0, 19, 20, 0, 13, 23, 3, 0, 15, 7, 9], ce_m360), (0, 2, [], [0, 3, 14, 7, 10, 12, 9, 5], [0, 0, 0, 19, 20, 5, 13, 23, 3, 0, 15, 7, 9], ce_m360)]) (by decide +kernel) ce_p475 (ce_pc ce_p360 (ce_pc ce_p453 (ce_pc ce_p360 (ce_pc ce_p360 ce_pn))))
def ce_m605 : Nat → Nat → Int := ce_F 8 13 0x88211008040052001208480080040208040201009000208200040288000001201008000000049
theorem ce_p605 : rk_M 2 ce_m605 := ce_st (b1 := 2) (T := ce_m417) (rem := [(4, 12, 1)]) (rows := [0, 4, 2, 13, 8, 7, 11, 14]) (cols := [12, 11, 23, 2, 7, 4, 16, 8, 18, 14, 20, 24]) (L := [(1, 2, [(4, 10, 2)], [0, 2, 9, 4, 12, 15, 7, 11], [2, 0, 12, 10, 6, 18, 8, 4, 17, 14, 0, 22, 21], ce_m390), (0, 2, [(5, 6, 2)], [0, 3, 8, 5, 13, 14, 6, 10], [0, 0, 8, 11, 7, 19, 0, 5, 16, 15, 13, 23, 20], ce_m390), (2, 2, [], [0, 3, 8, 5, 13, 14, 6, 10], [0, 0, 0, 11, 7, 19, 9, 5, 16, 15, 13, 23, 20], ce_m390)]) (by decide +kernel) ce_p417 (ce_pc ce_p390 (ce_pc ce_p390 (ce_pc ce_p390 ce_pn)))
def ce_m606 : Nat → Nat → Int := ce_F 8 13 0x490240008048401040001012081000048480008009001001200040041200001240008000000249
theorem ce_p606 : rk_M 2 ce_m606 := ce_st (b1 := 2) (T := ce_m415) (rem := [(1, 3, 5)]) (rows := [0, 4, 6, 8, 11, 3, 12, 14]) (cols := [8, 14, 18, 0, 10, 2, 12, 4, 6, 20, 22, 17, 24]) (L := [(3, 2, [(4, 5, 0), (4, 8, 2)], [0, 2, 4, 6, 10, 9, 12, 14], [2, 4, 10, 0, 6, 0, 8, 12, 0, 14, 16, 21, 18], ce_m530), (0, 2, [], [0, 12, 6, 4, 9, 3, 15, 10], [0, 15, 17, 0, 20, 2, 22, 6, 4, 12, 10, 9, 25], ce_m378), (2, 2, [(4, 10, 1)], [0, 13, 7, 5, 8, 2, 14, 11], [0, 11, 0, 0, 21, 3, 23, 7, 5, 13, 0, 8, 24], ce_m378), (1, 2, [], [0, 13, 7, 5, 8, 2, 14, 11], [0, 0, 0, 0, 21, 3, 23, 7, 5, 13, 11, 8, 24], ce_m378)]) (by decide +kernel) ce_p415 (ce_pc ce_p530 (ce_pc ce_p378 (ce_pc ce_p378 (ce_pc ce_p378 ce_pn))))
def ce_m607 : Nat → Nat → Int := ce_F 8 13 0x252280000040012088002041040041000088240040208200200008241000240001008001040009
theorem ce_p607 : rk_M 2 ce_m607 := ce_st (b1 := 2) (T := ce_m415) (rem := [(1, 1, 5)]) (rows := [0, 7, 5, 13, 9, 3, 10, 14]) (cols := [11, 0, 9, 15, 13, 3, 20, 5, 25, 7, 19, 16, 23]) (L := [(1, 2, [(4, 11, 8)], [0, 7, 5, 3, 11, 14, 8, 12], [5, 0, 7, 10, 3, 19, 13, 15, 17, 21, 9, 0, 22], ce_m457), (0, 2, [(5, 6, 3), (5, 10, 8)], [0, 7, 13, 8, 14, 3, 4, 10], [0, 0, 25, 6, 11, 15, 0, 3, 20, 5, 0, 8, 12], ce_m383), (8, 2, [(5, 12, 6)], [0, 7, 13, 8, 14, 3, 4, 10], [0, 0, 25, 6, 11, 15, 13, 3, 0, 5, 21, 8], ce_m383), (6, 2, [], [0, 7, 13, 8, 14, 3, 4, 10], [0, 0, 25, 6, 11, 15, 0, 3, 0, 5, 21, 8, 12], ce_m383)]) (by decide +kernel) ce_p415 (ce_pc ce_p457 (ce_pc ce_p383 (ce_pc ce_p383 (ce_pc ce_p383 ce_pn))))
def ce_m608 : Nat → Nat → Int := ce_F 8 13 0x280041440000281288008200040240240001009001001009000040040240001001408000040281
theorem ce_p608 : rk_M 2 ce_m608 := ce_st (b1 := 2) (T := ce_m408) (rem := [(1, 6, 6)]) (rows := [0, 3, 5, 7, 9, 11, 12, 14]) (cols := [3, 5, 7, 17, 13, 15, 0, 19, 9, 11, 21, 23, 25]) (L := [(6, 2, [(4, 7, 3)], [0, 3, 5, 6, 9, 10, 14, 13], [3, 9, 6, 5, 12, 11, 0, 0, 15, 16, 19, 22, 21], ce_m472), (0, 2, [(0, 1, 7), (4, 2, 1), (5, 4, 3), (1, 7, 7)], [0, 0, 2, 4, 6, 8, 11, 13], [0, 4, 0, 13, 0, 14, 0, 0, 8, 10, 16, 18, 20], ce_m204), (2, 2, [(0, 1, 7), (4, 5, 3), (1, 7, 7)], [0, 0, 2, 4, 6, 8, 11, 13], [0, 4, 0, 14, 12, 0, 0, 0, 8, 10, 16, 18, 20], ce_m204), (3, 2, [(0, 1, 7), (1, 7, 7)], [0, 0, 2, 4, 6, 8, 11, 13], [0, 4, 0, 0, 12, 14, 0, 0, 8, 10, 16, 18, 20], ce_m204)]) (by decide +kernel) ce_p408 (ce_pc ce_p472 (ce_pc ce_p204 (ce_pc ce_p204 (ce_pc ce_p204 ce_pn))))
def ce_m609 : Nat → Nat → Int := ce_F 8 13 0x212002009001249000049001080041200082008000091400002080048000040041008000000049
theorem ce_p609 : rk_M 2 ce_m609 := ce_st (b1 := 2) (T := ce_m411) (rem := [(1, 2, 7), (4, 12, 1)]) (rows := [0, 10, 7, 12, 9, 5, 14, 3]) (cols := [24, 3, 0, 11, 12, 4, 22, 17, 18, 14, 6, 9]) (L := [(2, 2, [(4, 9, 0), (4, 11, 1)], [0, 2, 14, 8, 6, 13, 10, 5], [2, 14, 0, 8, 21, 6, 18, 26, 24, 0, 16, 0, 11], ce_m349), (0, 2, [], [0, 4, 2, 7, 9, 13, 14, 11], [0, 9, 0, 2, 4, 6, 14, 16, 19, 12, 11, 21, 23], ce_m463), (1, 2, [], [0, 2, 14, 8, 6, 13, 10, 5], [0, 0, 0, 8, 21, 6, 18, 26, 24, 2, 16, 14, 11], ce_m349)]) (by decide +kernel) ce_p411 (ce_pc ce_p349 (ce_pc ce_p463 (ce_pc ce_p349 ce_pn)))
def ce_m610 : Nat → Nat → Int := ce_F 8 13 0x91480040050280400008201208001002240040000009240001040002201001000208008000209
theorem ce_p610 : rk_M 2 ce_m610 := ce_st (b1 := 2) (T := ce_m481) (rem := [(1, 0, 1), (1, 1, 2)]) (rows := [0, 3, 4, 7, 9, 11, 13, 14]) (cols := [0, 0, 3, 19, 13, 15, 17, 5, 6, 23, 8, 11, 21]) (L := [(0, 2, [(5, 11, 9)], [0, 14, 6, 4, 9, 12, 3, 11], [0, 8, 21, 16, 6, 2, 14, 23, 4, 13, 18, 0, 11], ce_m465), (1, 2, [], [0, 5, 14, 3, 11, 7, 8, 12], [0, 0, 13, 17, 3, 5, 7, 9, 21, 24, 23, 11, 19], ce_m395), (3, 2, [(5, 9, 5)], [0, 4, 15, 2, 10, 6, 9, 13], [0, 0, 12, 0, 2, 4, 6, 8, 20, 0, 22, 10, 18], ce_m395), (9, 2, [], [0, 4, 15, 2, 10, 6, 9, 13], [0, 0, 12, 0, 2, 4, 6, 8, 20, 0, 22, 10, 18], ce_m395)]) (by decide +kernel) ce_p481 (ce_pc ce_p465 (ce_pc ce_p395 (ce_pc ce_p395 (ce_pc ce_p395 ce_pn))))
def ce_m611 : Nat → Nat → Int := ce_F 8 13 0x282480008012002208000012080240240240001208000208200242040000001041008000000049
theorem ce_p611 : rk_M 2 ce_m611 := ce_st (b1 := 2) (T := ce_m415) (rem := [(1, 1, 5)]) (rows := [0, 5, 7, 13, 11, 2, 9, 14]) (cols := [13, 0, 16, 9, 11, 3, 14, 5, 7, 19, 20, 22, 25]) (L := [(1, 2, [(4, 12, 2)], [0, 8, 4, 2, 10, 7, 15, 13], [4, 0, 12, 16, 2, 8, 21, 10, 6, 14, 18, 22], ce_m483), (0, 2, [(5, 7, 2)], [0, 4, 14, 6, 12, 3, 8, 11], [0, 0, 5, 8, 18, 2, 23, 0, 14, 24, 13, 21, 10], ce_m411), (2, 2, [], [0, 4, 14, 6, 12, 3, 8, 11], [0, 0, 0, 8, 18, 2, 23, 4, 14, 24, 13, 21, 10], ce_m411)]) (by decide +kernel) ce_p415 (ce_pc ce_p483 (ce_pc ce_p411 (ce_pc ce_p411 ce_pn)))
def ce_m612 : Nat → Nat → Int := ce_F 8 13 0x21200200900124900004a000410200200240009000411400002010048000040041008000000049
theorem ce_p612 : rk_M 2 ce_m612 := ce_st (b1 := 2) (T := ce_m423) (rem := [(4, 12, 2)]) (rows := [0, 5, 3, 6, 12, 8, 14, 10]) (cols := [21, 24, 10, 3, 5, 7, 9, 16, 23, 19, 14, 13]) (L := [(1, 2, [(4, 9, 0), (5, 11, 2)], [0, 4, 8, 11, 2, 7, 12, 15], [14, 0, 5, 6, 16, 12, 8, 10, 22, 0, 24, 0, 21], ce_m390), (2, 2, [], [0, 4, 8, 11, 2, 7, 12, 15], [2, 0, 0, 6, 16, 12, 8, 10, 22, 14, 24, 4, 21], ce_m390), (0, 2, [], [0, 4, 8, 11, 2, 7, 12, 15], [0, 0, 0, 6, 16, 12, 8, 10, 22, 14, 24, 4, 21], ce_m390)]) (by decide +kernel) ce_p423 (ce_pc ce_p390 (ce_pc ce_p390 (ce_pc ce_p390 ce_pn)))
def ce_m613 : Nat → Nat → Int := ce_F 8 13 0x480012240012040408000042008440048081000000242040008001002208000040208000001209
theorem ce_p613 : rk_M 2 ce_m613 := ce_st (b1 := 2) (T := ce_m346) (rem := [(1, 0, 1)]) (rows := [0, 3, 6, 8, 13, 10, 14, 4]) (cols := [0, 12, 7, 26, 28, 11, 23, 14, 16, 18, 21, 25, 3]) (L := [(0, 2, [(5, 2, 1), (5, 5, 3)], [0, 13, 11, 7, 4, 2, 15, 8], [0, 12, 0, 19, 10, 0, 7, 5, 23, 2, 20, 17, 25], ce_m355), (1, 2, [(5, 6, 4)], [0, 5, 10, 14, 3, 7, 12, 9], [0, 0, 10, 16, 9, 15, 0, 20, 26, 3, 19, 24, 5], ce_m354), (3, 2, [], [0, 5, 7, 14, 10, 13, 8, 2], [0, 0, 23, 0, 31, 11, 7, 20, 16, 18, 15, 5, 3], ce_m346), (4, 2, [], [0, 5, 7, 14, 10, 13, 8, 2], [0, 0, 23, 0, 0, 11, 7, 20, 16, 18, 15, 5, 3], ce_m346)]) (by decide +kernel) ce_p346 (ce_pc ce_p355 (ce_pc ce_p354 (ce_pc ce_p346 (ce_pc ce_p346 ce_pn))))
def ce_m614 : Nat → Nat → Int := ce_F 8 13 0x292000009040450001002411000040008049001040208040000008408200240008008000000049
theorem ce_p614 : rk_M 2 ce_m614 := ce_st (b1 := 2) (T := ce_m495) (rem := [(4, 4, 0), (4, 12, 2)]) (rows := [0, 3, 8, 11, 5, 14, 6, 12]) (cols := [5, 20, 18, 12, 0, 3, 11, 17, 14, 7, 9, 23]) (L := [(0, 2, [(5, 9, 2)], [0, 8, 3, 5, 12, 11, 6, 15], [0, 11, 8, 3, 18, 12, 15, 5, 7, 0, 22, 21, 16], ce_m486), (2, 2, [(4, 7, 1)], [0, 10, 4, 14, 12, 9, 7, 3], [0, 6, 0, 16, 22, 15, 26, 0, 21, 8, 4, 10, 3], ce_m366), (1, 2, [], [0, 10, 4, 14, 12, 9, 7, 3], [0, 0, 0, 16, 22, 15, 26, 6, 21, 8, 4, 10, 3], ce_m366)]) (by decide +kernel) ce_p495 (ce_pc ce_p486 (ce_pc ce_p366 (ce_pc ce_p366 ce_pn)))
def ce_m615 : Nat → Nat → Int := ce_F 8 13 0x292002008008288000208010010240240040009010042200000202208000008009008000000049
theorem ce_p615 : rk_M 2 ce_m615 := ce_st (b1 := 2) (T := ce_m430) (rem := [(4, 12, 2)]) (rows := [0, 2, 4, 8, 14, 7, 11, 13]) (cols := [10, 21, 15, 2, 4, 8, 13, 16, 6, 18, 23, 25]) (L := [(0, 2, [(5, 8, 1)], [0, 3, 11, 5, 7, 8, 13, 14], [0, 14, 4, 9, 3, 16, 13, 11, 0, 23, 6, 19, 24], ce_m414), (2, 2, [(4, 11, 1)], [0, 3, 11, 5, 7, 8, 13, 14], [0, 19, 0, 9, 3, 16, 13, 11, 15, 23, 6, 0, 24], ce_m414), (1, 2, [], [0, 3, 11, 5, 7, 8, 13, 14], [0, 0, 0, 9, 3, 16, 13, 11, 15, 23, 6, 19, 24], ce_m414)]) (by decide +kernel) ce_p430 (ce_pc ce_p414 (ce_pc ce_p414 (ce_pc ce_p414 ce_pn)))
def ce_m616 : Nat → Nat → Int := ce_F 8 13 0x4909000104124000025049000020024000a000002041040000002048200009200008000000049
theorem ce_p616 : rk_M 2 ce_m616 := ce_st (b1 := 2) (T := ce_m426) (rem := [(1, 2, 5)]) (rows := [0, 9, 5, 3, 7, 11, 14, 12]) (cols := [21, 25, 0, 3, 7, 5, 10, 9, 13, 14, 17, 19, 22]) (L := [(2, 2, [(3, 6, 5), (4, 8, 0), (1, 12, 5)], [0, 4, 6, 9, 12, 3, 0, 10], [4, 2, 0, 10, 20, 23, 14, 12, 0, 6, 8, 24], ce_m156), (0, 2, [(3, 6, 5), (5, 6, 1), (1, 12, 5)], [0, 4, 7, 9, 10, 3, 0, 12], [0, 15, 0, 11, 19, 21, 0, 16, 2, 6, 8, 24], ce_m155), (1, 2, [(3, 6, 5), (1, 12, 5)], [0, 4, 7, 9, 10, 3, 0, 12], [0, 0, 0, 11, 19, 21, 14, 16, 2, 6, 8, 24], ce_m155)]) (by decide +kernel) ce_p426 (ce_pc ce_p156 (ce_pc ce_p155 (ce_pc ce_p155 ce_pn)))
def ce_m617 : Nat → Nat → Int := ce_F 8 13 0x281400440009440002048200011408480440000001041008000041200040000008240000000209
theorem ce_p617 : rk_M 2 ce_m617 := ce_st (b1 := 2) (T := ce_m494) (rem := [(1, 1, 1), (4, 12, 3)]) (rows := [0, 3, 7, 5, 8, 10, 14, 12]) (cols := [16, 0, 5, 22, 7, 3, 11, 9, 20, 13, 14, 18]) (L := [(1, 2, [(5, 4, 3)], [0, 3, 4, 7, 9, 10, 14, 12], [2, 0, 7, 4, 0, 8, 10, 13, 17, 14, 18, 21, 22], ce_m484), (3, 2, [(4, 8, 0)], [0, 3, 6, 11, 14, 4, 12, 8], [13, 0, 5, 0, 3, 10, 18, 25, 0, 20, 16, 23, 8], ce_m411), (0, 2, [], [0, 3, 6, 11, 14, 4, 12, 8], [0, 0, 5, 0, 3, 10, 18, 25, 13, 20, 16, 23, 8], ce_m411)]) (by decide +kernel) ce_p494 (ce_pc ce_p484 (ce_pc ce_p411 (ce_pc ce_p411 ce_pn)))
def ce_m618 : Nat → Nat → Int := ce_F 8 13 0x44820800008041044001120200100140a000040009008008000048010201000041008000001049
theorem ce_p618 : rk_M 2 ce_m618 := ce_st (b1 := 2) (T := ce_m537) (rem := [(1, 0, 1), (1, 1, 2), (1, 4, 6)]) (rows := [0, 2, 5, 8, 12, 10, 7, 15]) (cols := [0, 0, 14, 2, 0, 4, 16, 7, 9, 12, 18, 10, 21]) (L := [(0, 2, [(5, 5, 4)], [0, 12, 4, 6, 10, 9, 3, 14], [0, 8, 14, 13, 7, 0, 10, 2, 16, 4, 19, 23, 20], ce_m476), (1, 2, [], [0, 3, 10, 5, 14, 9, 6, 13], [0, 0, 15, 5, 16, 3, 9, 19, 20, 11, 13, 7, 23], ce_m466), (4, 2, [(4, 9, 2)], [0, 2, 11, 4, 15, 8, 7, 12], [0, 0, 10, 4, 0, 2, 8, 18, 21, 0, 12, 6, 22], ce_m466), (2, 2, [], [0, 2, 11, 4, 15, 8, 7, 12], [0, 0, 0, 4, 0, 2, 8, 18, 21, 10, 12, 6, 22], ce_m466)]) (by decide +kernel) ce_p537 (ce_pc ce_p476 (ce_pc ce_p466 (ce_pc ce_p466 (ce_pc ce_p466 ce_pn))))
def ce_m619 : Nat → Nat → Int := ce_F 8 13 0x20808a001048240040040009008209000051000080408040001010080200040041008000000049
theorem ce_p619 : rk_M 2 ce_m619 := ce_st (b1 := 2) (T := ce_m415) (rem := [(1, 2, 5), (4, 10, 1)]) (rows := [0, 6, 5, 12, 10, 2, 14, 9]) (cols := [6, 9, 0, 10, 4, 14, 21, 2, 16, 18, 0, 25, 23]) (L := [(2, 2, [(5, 7, 1), (4, 9, 0)], [0, 7, 5, 15, 12, 2, 10, 9], [11, 3, 0, 19, 4, 12, 23, 0, 14, 0, 9, 24, 21], ce_m411), (1, 2, [], [0, 2, 9, 4, 11, 6, 12, 15], [6, 0, 0, 2, 4, 8, 12, 14, 11, 16, 21, 19, 23], ce_m470), (0, 2, [], [0, 7, 5, 15, 12, 2, 10, 9], [0, 0, 0, 19, 4, 12, 23, 2, 14, 11, 9, 24, 21], ce_m411)]) (by decide +kernel) ce_p415 (ce_pc ce_p411 (ce_pc ce_p470 (ce_pc ce_p411 ce_pn)))
def ce_m620 : Nat → Nat → Int := ce_F 8 13 0x52002408041250000008040209000001012040008001081000009001200040009008200000049
theorem ce_p620 : rk_M 2 ce_m620 := ce_st (b1 := 2) (T := ce_m362) (rem := [(1, 0, 1), (1, 11, 7)]) (rows := [0, 2, 15, 5, 13, 6, 8, 11]) (cols := [0, 11, 27, 2, 8, 13, 18, 23, 20, 4, 7, 0, 16]) (L := [(0, 2, [], [0, 12, 5, 3, 6, 11, 8, 14], [0, 3, 7, 16, 18, 5, 11, 9, 12, 22, 15, 25, 20], ce_m405), (11, 2, [], [0, 6, 11, 3, 12, 4, 9, 14], [0, 7, 19, 2, 22, 9, 12, 14, 17, 20, 5, 0, 10], ce_m363), (1, 2, [(5, 5, 2)], [0, 2, 15, 5, 13, 6, 8, 11], [0, 0, 12, 2, 8, 0, 18, 23, 20, 4, 7, 0, 16], ce_m362), (2, 2, [], [0, 2, 15, 5, 13, 6, 8, 11], [0, 0, 0, 2, 8, 13, 18, 23, 20, 4, 7, 0, 16], ce_m362)]) (by decide +kernel) ce_p362 (ce_pc ce_p405 (ce_pc ce_p363 (ce_pc ce_p362 (ce_pc ce_p362 ce_pn))))
def ce_m621 : Nat → Nat → Int := ce_F 8 13 0x4a00a200048440040008402009000001208040048000081000001049000000209008008008009
theorem ce_p621 : rk_M 2 ce_m621 := ce_st (b1 := 2) (T := ce_m490) (rem := [(1, 0, 1), (1, 1, 3)]) (rows := [0, 2, 6, 5, 8, 10, 12, 14]) (cols := [0, 0, 12, 2, 4, 18, 6, 15, 16, 23, 9, 11, 20]) (L := [(0, 2, [], [0, 12, 2, 7, 4, 8, 10, 14], [0, 17, 2, 4, 10, 20, 18, 6, 8, 25, 13, 15, 22], ce_m400), (1, 2, [(5, 11, 9)], [0, 6, 8, 12, 4, 14, 2, 10], [0, 0, 6, 16, 4, 12, 14, 20, 2, 11, 22, 0, 18], ce_m413), (5, 2, [(5, 9, 8)], [0, 12, 2, 7, 4, 8, 10, 14], [0, 0, 2, 4, 10, 0, 18, 6, 8, 0, 13, 15, 22], ce_m400), (9, 2, [], [0, 12, 2, 7, 4, 8, 10, 14], [0, 0, 2, 4, 10, 0, 18, 6, 8, 0, 13, 15, 22], ce_m400)]) (by decide +kernel) ce_p490 (ce_pc ce_p400 (ce_pc ce_p413 (ce_pc ce_p400 (ce_pc ce_p400 ce_pn))))
def ce_m622 : Nat → Nat → Int := ce_F 8 13 0x20904800000a480001008200091000210002240008200440000208040200000240208000000249
theorem ce_p622 : rk_M 2 ce_m622 := ce_st (b1 := 2) (T := ce_m489) (rem := [(1, 0, 1), (1, 1, 2)]) (rows := [0, 5, 3, 6, 10, 8, 14, 13]) (cols := [0, 0, 10, 16, 3, 7, 9, 5, 14, 13, 18, 22, 20]) (L := [(0, 2, [(4, 11, 2)], [0, 3, 8, 10, 12, 6, 5, 14], [0, 4, 17, 6, 19, 3, 13, 22, 14, 10, 8, 0, 20], ce_m357), (1, 2, [(5, 4, 3)], [0, 4, 14, 3, 13, 9, 6, 11], [0, 0, 14, 13, 0, 6, 8, 27, 3, 23, 11, 18, 21], ce_m367), (2, 2, [], [0, 4, 9, 12, 2, 14, 6, 11], [0, 0, 0, 15, 13, 16, 8, 21, 19, 11, 23, 2, 27], ce_m367), (3, 2, [], [0, 3, 6, 13, 11, 8, 5, 14], [0, 0, 0, 0, 18, 5, 13, 20, 16, 8, 10, 15, 22], ce_m357)]) (by decide +kernel) ce_p489 (ce_pc ce_p357 (ce_pc ce_p367 (ce_pc ce_p367 (ce_pc ce_p357 ce_pn))))
def ce_m623 : Nat → Nat → Int := ce_F 8 13 0x49000240804940000020128100004020104000900840108000000a048000040048008000000049
theorem ce_p623 : rk_M 2 ce_m623 := ce_st (b1 := 2) (T := ce_m422) (rem := [(1, 2, 7)]) (rows := [0, 7, 3, 4, 10, 13, 14, 8]) (cols := [15, 22, 0, 3, 5, 6, 8, 11, 13, 17, 18, 25, 21]) (L := [(2, 2, [(4, 11, 1)], [0, 3, 11, 9, 13, 4, 6, 14], [9, 22, 0, 14, 7, 5, 18, 12, 16, 3, 20, 0, 26], ce_m363), (0, 2, [(5, 9, 1)], [0, 3, 11, 9, 13, 4, 6, 14], [0, 2, 0, 14, 7, 5, 18, 12, 16, 0, 20, 22, 26], ce_m363), (1, 2, [], [0, 3, 11, 9, 13, 4, 6, 14], [0, 0, 0, 14, 7, 5, 18, 12, 16, 3, 20, 22, 26], ce_m363)]) (by decide +kernel) ce_p422 (ce_pc ce_p363 (ce_pc ce_p363 (ce_pc ce_p363 ce_pn)))
def ce_m624 : Nat → Nat → Int := ce_F 8 13 0x290080009040211200000008240208208041000000042240000082400200201001008000000049
theorem ce_p624 : rk_M 2 ce_m624 := ce_st (b1 := 2) (T := ce_m370) (rem := []) (rows := [0, 7, 9, 3, 5, 12, 10, 14]) (cols := [15, 23, 26, 5, 3, 6, 9, 11, 16, 13, 21, 19, 24]) (L := [(0, 2, [(3, 5, 2), (1, 8, 2), (5, 10, 2)], [0, 6, 3, 5, 8, 0, 10, 13], [0, 5, 15, 9, 11, 2, 6, 13, 0, 16, 0, 18, 20], ce_m289), (1, 2, [(3, 5, 2), (1, 2, 2), (1, 8, 2)], [0, 5, 3, 7, 12, 0, 10, 9], [0, 0, 0, 9, 21, 2, 6, 13, 0, 24, 11, 22, 18], ce_m162), (2, 2, [(3, 5, 2), (1, 8, 2)], [0, 5, 3, 7, 12, 0, 10, 9], [0, 0, 0, 9, 21, 2, 6, 13, 0, 24, 11, 22, 18], ce_m162)]) (by decide +kernel) ce_p370 (ce_pc ce_p289 (ce_pc ce_p162 (ce_pc ce_p162 ce_pn)))
def ce_m625 : Nat → Nat → Int := ce_F 8 13 0x282400088041000091210042200000200208200000409008001240000200000009008000000049
theorem ce_p625 : rk_M 2 ce_m625 := ce_st (b1 := 2) (T := ce_m499) (rem := [(1, 0, 1), (4, 10, 1)]) (rows := [0, 3, 5, 8, 7, 11, 12, 14]) (cols := [0, 10, 18, 5, 7, 15, 16, 13, 3, 9, 0, 23, 20]) (L := [(0, 2, [], [0, 11, 9, 2, 6, 4, 14, 12], [0, 13, 14, 16, 23, 4, 2, 7, 9, 10, 21, 18, 25], ce_m426), (1, 2, [(5, 8, 2)], [0, 11, 9, 2, 6, 4, 14, 12], [0, 0, 8, 16, 23, 4, 2, 7, 0, 10, 21, 18, 25], ce_m426), (2, 2, [], [0, 11, 9, 2, 6, 4, 14, 12], [0, 0, 0, 16, 23, 4, 2, 7, 9, 10, 21, 18, 25], ce_m426)]) (by decide +kernel) ce_p499 (ce_pc ce_p426 (ce_pc ce_p426 (ce_pc ce_p426 ce_pn)))
def ce_m626 : Nat → Nat → Int := ce_F 8 13 0x24a400000048009040002400480200008048400008001401000048008201000208008000000049
theorem ce_p626 : rk_M 2 ce_m626 := ce_st (b1 := 2) (T := ce_m362) (rem := [(1, 0, 1), (1, 2, 5)]) (rows := [0, 2, 15, 5, 12, 11, 6, 8]) (cols := [0, 11, 0, 25, 2, 13, 8, 18, 23, 21, 7, 4, 16]) (L := [(0, 2, [], [0, 8, 3, 7, 4, 11, 15, 12], [0, 5, 21, 3, 16, 6, 18, 11, 9, 12, 15, 24, 22], ce_m419), (2, 2, [], [0, 6, 11, 3, 13, 14, 4, 9], [0, 7, 0, 19, 2, 9, 22, 12, 14, 16, 5, 20, 10], ce_m363), (1, 2, [], [0, 2, 15, 5, 12, 11, 6, 8], [0, 0, 0, 25, 2, 13, 8, 18, 23, 21, 7, 4, 16], ce_m362)]) (by decide +kernel) ce_p362 (ce_pc ce_p419 (ce_pc ce_p363 (ce_pc ce_p362 ce_pn)))
def ce_m627 : Nat → Nat → Int := ce_F 8 13 0x24228800000200a401000041401002000211000001401001008001040200208001008000000049
theorem ce_p627 : rk_M 2 ce_m627 := ce_st (b1 := 2) (T := ce_m498) (rem := [(1, 0, 1), (1, 2, 6)]) (rows := [0, 2, 10, 9, 13, 6, 5, 14]) (cols := [0, 9, 0, 4, 10, 12, 14, 17, 6, 18, 2, 20, 22]) (L := [(0, 2, [(5, 10, 2)], [0, 5, 8, 15, 11, 3, 7, 12], [0, 14, 10, 5, 12, 20, 2, 7, 27, 9, 0, 22, 24], ce_m361), (2, 2, [], [0, 5, 8, 15, 11, 3, 7, 12], [0, 18, 0, 5, 12, 20, 2, 7, 27, 9, 11, 22, 24], ce_m361), (1, 2, [], [0, 5, 10, 15, 9, 3, 7, 12], [0, 0, 0, 5, 13, 18, 6, 3, 27, 9, 11, 24, 22], ce_m361)]) (by decide +kernel) ce_p498 (ce_pc ce_p361 (ce_pc ce_p361 (ce_pc ce_p361 ce_pn)))
def ce_m628 : Nat → Nat → Int := ce_F 8 13 0x28a080001000490001208002240000208041000008002201000048008040000241008000000049
theorem ce_p628 : rk_M 2 ce_m628 := ce_st (b1 := 2) (T := ce_m501) (rem := [(1, 2, 6), (4, 3, 0)]) (rows := [0, 5, 3, 10, 13, 9, 6, 14]) (cols := [5, 14, 0, 0, 12, 3, 9, 11, 7, 17, 20, 23, 19]) (L := [(2, 2, [(4, 10, 1)], [0, 7, 11, 2, 4, 9, 13, 14], [15, 6, 0, 9, 2, 5, 12, 16, 10, 18, 0, 20, 23], ce_m500), (0, 2, [], [0, 5, 3, 6, 9, 13, 10, 14], [0, 12, 0, 3, 6, 9, 11, 15, 5, 17, 18, 21, 23], ce_m491), (1, 2, [], [0, 5, 3, 6, 9, 13, 10, 14], [0, 0, 0, 3, 6, 9, 11, 15, 5, 17, 18, 21, 23], ce_m491)]) (by decide +kernel) ce_p501 (ce_pc ce_p500 (ce_pc ce_p491 (ce_pc ce_p491 ce_pn)))
def ce_m629 : Nat → Nat → Int := ce_F 8 13 0x248240008009200009000052008000201040002008041000240002401000000248040000000248
theorem ce_p629 : rk_M 2 ce_m629 := ce_st (b1 := 2) (T := ce_m496) (rem := [(1, 1, 1), (1, 3, 6)]) (rows := [0, 3, 6, 9, 11, 5, 13, 14]) (cols := [11, 0, 16, 0, 5, 3, 7, 14, 12, 9, 19, 21, 22]) (L := [(1, 2, [], [0, 10, 7, 2, 5, 9, 13, 14], [4, 0, 17, 25, 12, 2, 7, 8, 11, 15, 18, 21, 23], ce_m425), (3, 2, [(4, 12, 2)], [0, 3, 8, 5, 12, 11, 6, 14], [11, 0, 24, 0, 9, 3, 15, 17, 22, 12, 7, 18], ce_m414), (2, 2, [], [0, 3, 8, 5, 12, 11, 6, 14], [11, 0, 0, 0, 9, 3, 15, 17, 22, 12, 7, 18, 24], ce_m414)]) (by decide +kernel) ce_p496 (ce_pc ce_p425 (ce_pc ce_p414 (ce_pc ce_p414 ce_pn)))
def ce_m630 : Nat → Nat → Int := ce_F 8 13 0x24a240000002202400000209000041001012000040050200000011011000010041008008000049
theorem ce_p630 : rk_M 2 ce_m630 := ce_st (b1 := 2) (T := ce_m542) (rem := [(1, 0, 1), (1, 1, 5), (1, 2, 2)]) (rows := [0, 4, 3, 8, 11, 6, 12, 14]) (cols := [0, 0, 0, 4, 14, 10, 9, 2, 7, 21, 12, 16, 19]) (L := [(0, 2, [(5, 3, 2)], [0, 15, 3, 6, 4, 8, 10, 12], [0, 24, 15, 0, 5, 11, 7, 8, 12, 26, 20, 22, 16], ce_m365), (1, 2, [(5, 10, 9)], [0, 7, 5, 14, 2, 12, 10, 8], [0, 0, 17, 4, 15, 7, 11, 12, 8, 21, 0, 24, 2], ce_m365), (2, 2, [], [0, 3, 15, 4, 6, 8, 10, 12], [0, 0, 0, 15, 4, 7, 11, 12, 8, 26, 20, 16, 22], ce_m365), (9, 2, [], [0, 5, 7, 2, 14, 12, 10, 8], [0, 0, 0, 5, 14, 11, 7, 8, 12, 0, 20, 2, 24], ce_m365)]) (by decide +kernel) ce_p542 (ce_pc ce_p365 (ce_pc ce_p365 (ce_pc ce_p365 (ce_pc ce_p365 ce_pn))))
def ce_m631 : Nat → Nat → Int := ce_F 8 13 0x44208800005200040100840800024000800a200040201001001008040040000201208000000049
theorem ce_p631 : rk_M 2 ce_m631 := ce_st (b1 := 2) (T := ce_m369) (rem := [(4, 8, 1)]) (rows := [0, 2, 12, 4, 6, 8, 14, 10]) (cols := [6, 8, 10, 2, 21, 12, 4, 23, 0, 18, 27, 14, 24]) (L := [(0, 2, [(5, 10, 2)], [0, 13, 6, 9, 3, 5, 14, 10], [0, 17, 13, 7, 2, 11, 22, 18, 9, 5, 0, 25, 15], ce_m369), (1, 2, [], [0, 5, 11, 6, 12, 2, 8, 15], [0, 0, 7, 15, 23, 18, 17, 25, 2, 26, 5, 20, 10], ce_m366), (2, 2, [], [0, 15, 3, 4, 12, 6, 10, 8], [0, 0, 0, 28, 15, 12, 22, 3, 4, 21, 7, 8, 19], ce_m353)]) (by decide +kernel) ce_p369 (ce_pc ce_p369 (ce_pc ce_p366 (ce_pc ce_p353 ce_pn)))
def ce_m632 : Nat → Nat → Int := ce_F 8 13 0x252002200011088000010048000008000211001240008040001201000200000041200000001048
theorem ce_p632 : rk_M 2 ce_m632 := ce_st (b1 := 2) (T := ce_m502) (rem := [(1, 1, 2), (1, 2, 1)]) (rows := [0, 3, 5, 7, 8, 10, 12, 14]) (cols := [12, 0, 0, 5, 22, 7, 9, 14, 16, 11, 3, 21, 19]) (L := [(1, 2, [], [0, 3, 12, 7, 8, 4, 10, 14], [6, 0, 5, 3, 24, 13, 21, 18, 8, 16, 26, 23, 15], ce_m368), (2, 2, [(5, 5, 4)], [0, 3, 6, 5, 12, 8, 10, 14], [22, 0, 0, 5, 8, 0, 11, 24, 12, 18, 20, 17, 15], ce_m361), (4, 2, [], [0, 3, 6, 5, 12, 8, 10, 14], [22, 0, 0, 5, 0, 9, 11, 24, 12, 18, 20, 17, 15], ce_m361)]) (by decide +kernel) ce_p502 (ce_pc ce_p368 (ce_pc ce_p361 (ce_pc ce_p361 ce_pn)))
def ce_m633 : Nat → Nat → Int := ce_F 8 13 0x210208000040408200001042008000242000200240009000002200002040008008240000200209
theorem ce_p633 : rk_M 2 ce_m633 := ce_st (b1 := 2) (T := ce_m546) (rem := [(1, 0, 2), (1, 1, 1), (1, 3, 4)]) (rows := [0, 3, 4, 14, 6, 11, 13, 9]) (cols := [0, 0, 3, 0, 9, 19, 15, 16, 5, 10, 7, 12, 21]) (L := [(0, 2, [(4, 2, 1), (5, 9, 7)], [0, 4, 8, 10, 12, 2, 7, 14], [0, 6, 0, 17, 2, 9, 18, 5, 12, 0, 21, 10, 15], ce_m545), (1, 2, [], [0, 14, 3, 12, 8, 11, 4, 7], [0, 0, 8, 22, 25, 12, 15, 16, 21, 3, 4, 27, 10], ce_m349), (3, 2, [], [0, 15, 2, 12, 11, 8, 7, 4], [0, 0, 9, 0, 22, 15, 12, 18, 16, 4, 3, 27, 10], ce_m349), (7, 2, [], [0, 14, 3, 12, 8, 11, 4, 7], [0, 0, 8, 0, 25, 12, 15, 0, 21, 3, 4, 27, 10], ce_m349)]) (by decide +kernel) ce_p546 (ce_pc ce_p545 (ce_pc ce_p349 (ce_pc ce_p349 (ce_pc ce_p349 ce_pn))))
def ce_m634 : Nat → Nat → Int := ce_F 8 13 0x290000009010450000000401408000008050200201400001009000200040008009008000000049
theorem ce_p634 : rk_M 2 ce_m634 := ce_st (b1 := 2) (T := ce_m353) (rem := [(1, 2, 7), (4, 12, 1)]) (rows := [0, 8, 2, 5, 13, 15, 11, 7]) (cols := [2, 5, 0, 20, 22, 14, 29, 24, 8, 13, 10, 6]) (L := [(2, 2, [(1, 1, 3)], [0, 10, 4, 3, 13, 15, 8, 7], [8, 0, 0, 22, 24, 14, 29, 21, 4, 11, 12, 6, 3], ce_m352), (0, 2, [], [0, 4, 13, 8, 2, 11, 7, 15], [0, 19, 0, 2, 12, 11, 8, 14, 6, 4, 22, 16, 20], ce_m422), (1, 2, [], [0, 11, 5, 2, 12, 14, 9, 6], [0, 0, 0, 23, 25, 15, 28, 20, 5, 10, 13, 7, 2], ce_m352)]) (by decide +kernel) ce_p353 (ce_pc ce_p352 (ce_pc ce_p422 (ce_pc ce_p352 ce_pn)))
def ce_m635 : Nat → Nat → Int := ce_F 8 13 0x241001040041040040040441200000401240000000040441000008400240000041200000001041
theorem ce_p635 : rk_M 2 ce_m635 := ce_st (b1 := 2) (T := ce_m436) (rem := [(1, 2, 1)]) (rows := [0, 3, 4, 6, 8, 10, 14, 13]) (cols := [12, 4, 0, 6, 15, 3, 8, 10, 20, 18, 23, 17, 25]) (L := [(2, 2, [], [0, 11, 2, 4, 6, 8, 12, 14], [2, 6, 0, 12, 17, 15, 8, 10, 18, 20, 25, 23, 4], ce_m432), (0, 2, [(5, 4, 1)], [0, 15, 5, 9, 12, 7, 2, 10], [0, 9, 0, 25, 0, 14, 21, 17, 6, 19, 2, 22, 4], ce_m369), (4, 2, [], [0, 15, 5, 9, 12, 7, 2, 10], [0, 9, 0, 25, 0, 14, 21, 17, 6, 19, 2, 22, 4], ce_m369)]) (by decide +kernel) ce_p436 (ce_pc ce_p432 (ce_pc ce_p369 (ce_pc ce_p369 ce_pn)))
def ce_m636 : Nat → Nat → Int := ce_F 8 13 0x241001001041040040202202200000011200200000009440000000201200000008048000000281
theorem ce_p636 : rk_M 2 ce_m636 := ce_st (b1 := 2) (T := ce_m371) (rem := [(1, 0, 1), (1, 2, 2)]) (rows := [0, 2, 4, 13, 6, 15, 8, 10]) (cols := [0, 4, 0, 17, 2, 6, 27, 18, 12, 14, 22, 24, 20]) (L := [(0, 2, [], [0, 4, 2, 6, 11, 8, 14, 12], [0, 6, 2, 13, 14, 4, 8, 11, 23, 20, 18, 16, 24], ce_m434), (2, 2, [], [0, 2, 4, 13, 15, 6, 8, 10], [0, 4, 0, 10, 2, 6, 17, 19, 22, 24, 12, 14, 20], ce_m371), (3, 2, [], [0, 2, 4, 13, 15, 6, 8, 10], [0, 4, 0, 0, 2, 6, 17, 19, 22, 24, 12, 14, 20], ce_m371)]) (by decide +kernel) ce_p371 (ce_pc ce_p434 (ce_pc ce_p371 (ce_pc ce_p371 ce_pn)))
def ce_m637 : Nat → Nat → Int := ce_F 8 13 0x24800000800241100000205004000200120000800000900900000108008000004a000000000209
theorem ce_p637 : rk_M 2 ce_m637 := ce_st (b1 := 2) (T := ce_m504) (rem := [(1, 0, 2), (1, 3, 1)]) (rows := [0, 2, 5, 6, 12, 8, 11, 14]) (cols := [0, 2, 10, 0, 6, 4, 9, 18, 17, 12, 20, 15, 23]) (L := [(0, 2, [(5, 4, 3)], [0, 2, 5, 6, 11, 12, 15, 8], [0, 13, 8, 3, 0, 4, 15, 23, 21, 24, 18, 17, 10], ce_m434), (3, 2, [], [0, 5, 2, 6, 11, 15, 12, 8], [0, 13, 8, 0, 3, 15, 4, 21, 23, 25, 17, 18, 10], ce_m434), (1, 2, [], [0, 4, 3, 7, 14, 10, 13, 9], [0, 0, 9, 0, 2, 12, 5, 24, 23, 20, 16, 11, 19], ce_m434)]) (by decide +kernel) ce_p504 (ce_pc ce_p434 (ce_pc ce_p434 (ce_pc ce_p434 ce_pn)))
def ce_m638 : Nat → Nat → Int := ce_F 8 12 0x410091040208048009041041201401211000012480040088200408000048201000001049
theorem ce_p638 : rk_M 2 ce_m638 := ce_st (b1 := 2) (T := ce_m379) (rem := []) (rows := [0, 2, 5, 9, 7, 10, 12, 15]) (cols := [8, 19, 21, 2, 22, 4, 6, 11, 12, 15, 16, 24]) (L := [(1, 2, [(3, 7, 6), (4, 3, 0), (5, 9, 2)], [0, 3, 8, 6, 12, 11, 5], [7, 0, 10, 0, 14, 5, 3, 13, 21, 0, 19, 17], ce_m223), (2, 2, [(3, 7, 6), (4, 6, 0), (4, 8, 4)], [0, 7, 4, 12, 11, 3, 9], [7, 0, 0, 5, 9, 15, 0, 18, 0, 16, 3, 13], ce_m180), (0, 2, [(3, 7, 6), (5, 5, 4)], [0, 7, 4, 12, 11, 3, 9], [0, 0, 0, 5, 14, 0, 7, 18, 9, 16, 3, 13], ce_m180), (4, 2, [(3, 7, 6)], [0, 7, 4, 12, 11, 3, 9], [0, 0, 0, 5, 0, 15, 7, 18, 9, 16, 3, 13], ce_m180)]) (by decide +kernel) ce_p379 (ce_pc ce_p223 (ce_pc ce_p180 (ce_pc ce_p180 (ce_pc ce_p180 ce_pn))))
def ce_m639 : Nat → Nat → Int := ce_F 8 12 0x48029100040a080440210440008002400448048008041001201201000048201000001049
theorem ce_p639 : rk_M 2 ce_m639 := ce_st (b1 := 2) (T := ce_m380) (rem := []) (rows := [0, 3, 5, 7, 8, 11, 12, 14]) (cols := [3, 10, 17, 5, 21, 7, 9, 13, 15, 19, 23, 25]) (L := [(1, 2, [(3, 4, 2), (4, 7, 4), (4, 9, 2)], [0, 2, 6, 10, 0, 12, 5, 9], [8, 0, 19, 4, 20, 6, 2, 0, 10, 0, 12, 14], ce_m224), (4, 2, [(3, 4, 2), (4, 5, 0)], [0, 3, 5, 7, 0, 9, 10, 12], [7, 0, 12, 3, 0, 0, 5, 10, 15, 8, 17, 19], ce_m307), (0, 2, [(3, 4, 2), (5, 3, 2)], [0, 3, 5, 11, 0, 9, 6, 12], [0, 0, 4, 0, 0, 9, 7, 17, 11, 14, 23, 21], ce_m180), (2, 2, [(3, 4, 2)], [0, 3, 5, 11, 0, 9, 6, 12], [0, 0, 0, 5, 0, 9, 7, 17, 11, 14, 23, 21], ce_m180)]) (by decide +kernel) ce_p380 (ce_pc ce_p224 (ce_pc ce_p307 (ce_pc ce_p180 (ce_pc ce_p180 ce_pn))))
def ce_m640 : Nat → Nat → Int := ce_F 8 12 0x491000240242040008202410008002402208010040248048208001001201041000000249
theorem ce_p640 : rk_M 2 ce_m640 := ce_st (b1 := 2) (T := ce_m354) (rem := []) (rows := [0, 7, 3, 4, 14, 12, 9, 10]) (cols := [3, 14, 11, 22, 21, 19, 4, 13, 17, 7, 9, 25]) (L := [(0, 2, [(3, 4, 1), (1, 4, 1), (5, 9, 2)], [0, 4, 12, 3, 0, 9, 7, 11], [0, 3, 11, 5, 0, 18, 7, 12, 8, 0, 17, 15], ce_m299), (2, 2, [(3, 4, 1), (1, 3, 1), (1, 4, 1), (5, 8, 1)], [0, 2, 12, 9, 0, 11, 7, 4], [0, 5, 0, 0, 0, 24, 11, 8, 0, 17, 15, 13], ce_m155), (3, 2, [(3, 4, 1), (1, 4, 1), (4, 11, 1)], [0, 2, 12, 9, 0, 11, 7, 4], [0, 13, 0, 0, 0, 24, 11, 8, 4, 17, 15], ce_m155), (1, 2, [(3, 4, 1), (1, 4, 1)], [0, 2, 12, 9, 0, 11, 7, 4], [0, 0, 0, 0, 0, 24, 11, 8, 4, 17, 15, 13], ce_m155)]) (by decide +kernel) ce_p354 (ce_pc ce_p299 (ce_pc ce_p155 (ce_pc ce_p155 (ce_pc ce_p155 ce_pn))))
def ce_m641 : Nat → Nat → Int := ce_F 8 12 0x211082200280290001010402240082010041041008208008201009000049008000000249
theorem ce_p641 : rk_M 2 ce_m641 := ce_st (b1 := 2) (T := ce_m382) (rem := []) (rows := [0, 3, 7, 5, 8, 10, 12, 14]) (cols := [23, 5, 10, 21, 7, 3, 9, 19, 17, 15, 13, 24]) (L := [(2, 2, [(3, 4, 3), (3, 5, 2), (4, 7, 0), (4, 8, 3)], [0, 3, 11, 9, 0, 0, 4, 6], [16, 9, 0, 18, 7, 3, 5, 0, 0, 15, 13, 10], ce_m67), (0, 2, [(3, 4, 3), (3, 5, 2), (4, 5, 1)], [0, 3, 7, 5, 0, 0, 8, 10], [0, 3, 0, 9, 7, 0, 5, 14, 16, 13, 11, 18], ce_m98), (1, 2, [(3, 4, 3), (3, 5, 2), (5, 4, 3)], [0, 3, 11, 9, 0, 0, 4, 6], [0, 0, 0, 6, 0, 3, 5, 16, 18, 15, 13, 10], ce_m67), (3, 2, [(3, 4, 3), (3, 5, 2)], [0, 3, 11, 9, 0, 0, 4, 6], [0, 0, 0, 0, 7, 3, 5, 16, 18, 15, 13, 10], ce_m67)]) (by decide +kernel) ce_p382 (ce_pc ce_p67 (ce_pc ce_p98 (ce_pc ce_p67 (ce_pc ce_p67 ce_pn))))
def ce_m642 : Nat → Nat → Int := ce_F 8 12 0x20a04800128024100100240a200410400208048008041001201041000008241000041009
theorem ce_p642 : rk_M 2 ce_m642 := ce_st (b1 := 2) (T := ce_m442) (rem := [(1, 1, 4)]) (rows := [0, 3, 11, 9, 5, 7, 14, 13]) (cols := [11, 0, 5, 3, 18, 7, 23, 8, 16, 12, 21, 14]) (L := [(1, 2, [(4, 7, 4), (4, 11, 6)], [0, 4, 11, 12, 6, 2, 15, 8], [20, 0, 12, 4, 11, 2, 15, 0, 9, 16, 6], ce_m509), (6, 2, [(4, 2, 0), (4, 8, 4)], [0, 2, 8, 6, 13, 10, 14, 4], [4, 0, 0, 12, 9, 2, 0, 23, 0, 6, 18, 14], ce_m360), (4, 2, [(4, 5, 0)], [0, 2, 8, 6, 13, 10, 14, 4], [2, 0, 4, 12, 0, 0, 0, 23, 9, 6, 18, 14], ce_m360), (0, 2, [], [0, 2, 8, 6, 13, 10, 14, 4], [0, 0, 4, 12, 0, 2, 0, 23, 9, 6, 18, 14], ce_m360)]) (by decide +kernel) ce_p442 (ce_pc ce_p509 (ce_pc ce_p360 (ce_pc ce_p360 (ce_pc ce_p360 ce_pn))))
def ce_m643 : Nat → Nat → Int := ce_F 8 12 0x2452200242008088240009009408012200048000209000208088001001041000040209
theorem ce_p643 : rk_M 2 ce_m643 := ce_st (b1 := 2) (T := ce_m441) (rem := [(1, 6, 7)]) (rows := [0, 4, 3, 10, 9, 14, 13, 6]) (cols := [12, 15, 2, 18, 6, 9, 0, 5, 10, 17, 23, 21]) (L := [(6, 2, [(4, 9, 3)], [0, 6, 9, 2, 4, 14, 11, 13], [6, 12, 2, 4, 9, 11, 0, 15, 20, 0, 18, 17], ce_m506), (0, 2, [(5, 2, 1), (5, 4, 3)], [0, 5, 7, 2, 12, 8, 10, 14], [0, 11, 0, 14, 0, 17, 0, 21, 23, 18, 8, 24], ce_m354), (3, 2, [(4, 5, 1)], [0, 5, 7, 2, 12, 8, 10, 14], [0, 17, 10, 0, 15, 0, 0, 21, 23, 18, 8, 24], ce_m354), (1, 2, [], [0, 5, 7, 2, 12, 8, 10, 14], [0, 0, 10, 0, 15, 17, 0, 21, 23, 18, 8, 24], ce_m354)]) (by decide +kernel) ce_p441 (ce_pc ce_p506 (ce_pc ce_p354 (ce_pc ce_p354 (ce_pc ce_p354 ce_pn))))
def ce_m644 : Nat → Nat → Int := ce_F 8 12 0x209488000281409000042080440012001440009008201200009048000240208000009041
theorem ce_p644 : rk_M 2 ce_m644 := ce_st (b1 := 2) (T := ce_m443) (rem := [(1, 0, 3)]) (rows := [0, 2, 10, 4, 7, 9, 14, 12]) (cols := [0, 4, 17, 2, 19, 12, 8, 14, 6, 10, 21, 22]) (L := [(0, 2, [(3, 4, 3), (4, 11, 5)], [0, 5, 3, 6, 0, 12, 9, 10], [0, 7, 3, 15, 5, 11, 9, 13, 20, 16, 18], ce_m254), (2, 2, [(3, 4, 3), (4, 8, 5), (5, 10, 4)], [0, 4, 2, 10, 0, 7, 8, 12], [0, 2, 0, 12, 10, 18, 14, 16, 0, 22, 0, 6], ce_m175), (4, 2, [(3, 4, 3), (4, 9, 5)], [0, 4, 2, 10, 0, 7, 8, 12], [0, 2, 0, 12, 0, 22, 14, 16, 18, 0, 11, 6], ce_m175), (5, 2, [(3, 4, 3)], [0, 4, 2, 10, 0, 7, 8, 12], [0, 2, 0, 12, 0, 0, 14, 16, 18, 22, 11, 6], ce_m175)]) (by decide +kernel) ce_p443 (ce_pc ce_p254 (ce_pc ce_p175 (ce_pc ce_p175 (ce_pc ce_p175 ce_pn))))
def ce_m645 : Nat → Nat → Int := ce_F 8 12 0x212408008240241001401082200010480048008241001041200201000008209000001049
theorem ce_p645 : rk_M 2 ce_m645 := ce_st (b1 := 2) (T := ce_m379) (rem := [(1, 2, 4)]) (rows := [0, 5, 8, 12, 3, 7, 14, 11]) (cols := [15, 3, 0, 11, 24, 17, 4, 6, 12, 8, 20, 23]) (L := [(2, 2, [(3, 4, 3), (4, 5, 1), (4, 6, 4)], [0, 5, 8, 6, 0, 10, 12, 3], [15, 5, 0, 11, 20, 0, 0, 12, 8, 2, 22, 17], ce_m173), (1, 2, [(3, 4, 3), (4, 7, 0)], [0, 5, 3, 7, 0, 9, 13, 10], [5, 0, 0, 3, 6, 11, 18, 0, 15, 13, 9, 20], ce_m228), (4, 2, [(3, 4, 3), (4, 3, 0)], [0, 4, 9, 7, 0, 11, 13, 2], [10, 0, 0, 0, 0, 4, 21, 13, 9, 3, 23, 16], ce_m173), (0, 2, [(3, 4, 3)], [0, 4, 9, 7, 0, 11, 13, 2], [0, 0, 0, 10, 0, 4, 21, 13, 9, 3, 23, 16], ce_m173)]) (by decide +kernel) ce_p379 (ce_pc ce_p173 (ce_pc ce_p228 (ce_pc ce_p173 (ce_pc ce_p173 ce_pn))))
def ce_m646 : Nat → Nat → Int := ce_F 8 12 0x450440008289200001080290040040049001200201201010010208000201041001040009
theorem ce_p646 : rk_M 2 ce_m646 := ce_st (b1 := 2) (T := ce_m450) (rem := [(1, 8, 6)]) (rows := [0, 3, 5, 7, 11, 9, 13, 14]) (cols := [11, 17, 3, 5, 7, 8, 22, 13, 0, 14, 18, 21]) (L := [(8, 2, [(3, 7, 6), (4, 4, 0), (5, 9, 1), (4, 10, 6)], [0, 4, 8, 6, 13, 2, 10], [14, 20, 2, 10, 0, 7, 9, 4, 0, 0, 0, 18], ce_m155), (1, 2, [(3, 7, 6), (4, 6, 5)], [0, 4, 10, 12, 7, 2, 8], [20, 0, 2, 14, 18, 7, 0, 8, 0, 10, 5, 12], ce_m241), (6, 2, [(3, 7, 6), (4, 7, 0)], [0, 4, 8, 6, 13, 2, 10], [4, 0, 2, 10, 14, 7, 0, 0, 0, 21, 9, 18], ce_m155), (0, 2, [(3, 7, 6)], [0, 4, 8, 6, 13, 2, 10], [0, 0, 2, 10, 14, 7, 0, 4, 0, 21, 9, 18], ce_m155)]) (by decide +kernel) ce_p450 (ce_pc ce_p155 (ce_pc ce_p241 (ce_pc ce_p155 (ce_pc ce_p155 ce_pn))))
def ce_m647 : Nat → Nat → Int := ce_F 8 12 0x242200088002089088088481000052008400208001009000200288001040041000009009
theorem ce_p647 : rk_M 2 ce_m647 := ce_st (b1 := 2) (T := ce_m397) (rem := []) (rows := [0, 3, 4, 7, 9, 10, 12, 14]) (cols := [3, 14, 5, 6, 20, 22, 9, 10, 13, 17, 18, 24]) (L := [(0, 2, [(3, 6, 1), (5, 2, 1), (5, 6, 4)], [0, 6, 3, 13, 4, 8, 0, 11], [0, 3, 0, 5, 11, 18, 0, 7, 15, 17, 12, 25], ce_m156), (5, 2, [(3, 6, 1), (4, 9, 4)], [0, 4, 6, 8, 13, 3, 0, 10], [0, 4, 12, 14, 11, 0, 6, 2, 20, 0, 18, 16], ce_m252), (4, 2, [(3, 6, 1), (4, 7, 1)], [0, 6, 12, 2, 11, 8, 0, 4], [0, 16, 19, 24, 0, 0, 10, 0, 15, 6, 12, 4], ce_m156), (1, 2, [(3, 6, 1)], [0, 6, 12, 2, 11, 8, 0, 4], [0, 0, 19, 24, 0, 0, 10, 16, 15, 6, 12, 4], ce_m156)]) (by decide +kernel) ce_p397 (ce_pc ce_p156 (ce_pc ce_p252 (ce_pc ce_p156 (ce_pc ce_p156 ce_pn))))
def ce_m648 : Nat → Nat → Int := ce_F 8 12 0x492008008082202200041410040012088008208200201009041001000009009000000249
theorem ce_p648 : rk_M 2 ce_m648 := ce_st (b1 := 2) (T := ce_m379) (rem := [(1, 2, 5)]) (rows := [0, 6, 9, 4, 14, 3, 10, 12]) (cols := [10, 24, 0, 16, 13, 4, 21, 2, 7, 14, 9, 18]) (L := [(2, 2, [(4, 5, 1), (4, 7, 3)], [0, 4, 6, 2, 14, 9, 12, 11], [2, 14, 0, 6, 8, 0, 16, 0, 20, 12, 19, 4], ce_m511), (3, 2, [(4, 4, 0)], [0, 9, 5, 3, 14, 6, 11, 12], [7, 10, 0, 0, 0, 8, 17, 3, 13, 5, 21, 15], ce_m508), (0, 2, [(5, 9, 1)], [0, 4, 7, 3, 14, 8, 11, 12], [0, 12, 0, 0, 11, 14, 21, 9, 17, 0, 24, 19], ce_m354), (1, 2, [], [0, 4, 7, 3, 14, 8, 11, 12], [0, 0, 0, 0, 11, 14, 21, 9, 17, 13, 24, 19], ce_m354)]) (by decide +kernel) ce_p379 (ce_pc ce_p511 (ce_pc ce_p508 (ce_pc ce_p354 (ce_pc ce_p354 ce_pn))))
def ce_m649 : Nat → Nat → Int := ce_F 8 12 0x250089000010489000212008200082042200008200488041001041000040241000009009
theorem ce_p649 : rk_M 2 ce_m649 := ce_st (b1 := 2) (T := ce_m447) (rem := [(1, 1, 3)]) (rows := [0, 3, 7, 4, 9, 11, 13, 14]) (cols := [7, 0, 3, 5, 17, 21, 11, 8, 15, 12, 19, 23]) (L := [(1, 2, [(4, 2, 0), (5, 9, 5)], [0, 5, 12, 6, 9, 3, 14, 11], [9, 0, 0, 3, 21, 13, 15, 16, 6, 0, 18, 5], ce_m511), (0, 2, [(5, 6, 4)], [0, 8, 12, 3, 4, 6, 10, 15], [0, 0, 6, 2, 15, 20, 0, 5, 9, 13, 11, 16], ce_m511), (5, 2, [(4, 8, 4)], [0, 13, 10, 2, 9, 5, 7, 15], [0, 0, 13, 11, 6, 0, 18, 4, 0, 8, 16, 21], ce_m355), (4, 2, [], [0, 13, 10, 2, 9, 5, 7, 15], [0, 0, 13, 11, 0, 0, 18, 4, 6, 8, 16, 21], ce_m355)]) (by decide +kernel) ce_p447 (ce_pc ce_p511 (ce_pc ce_p511 (ce_pc ce_p355 (ce_pc ce_p355 ce_pn))))
def ce_m650 : Nat → Nat → Int := ce_F 8 12 0x488091000212040200082011200010400288041008009008201041000048041000001209
theorem ce_p650 : rk_M 2 ce_m650 := ce_st (b1 := 2) (T := ce_m389) (rem := []) (rows := [0, 3, 5, 7, 8, 10, 13, 14]) (cols := [3, 13, 5, 16, 21, 7, 9, 11, 15, 19, 23, 25]) (L := [(1, 2, [(3, 4, 2), (3, 5, 3), (4, 2, 0), (1, 7, 2), (5, 8, 3)], [0, 3, 5, 7, 0, 0, 8, 10], [7, 0, 0, 4, 13, 3, 11, 0, 0, 9, 15, 16], ce_m134), (0, 2, [(3, 4, 2), (3, 5, 3), (5, 5, 4), (1, 7, 2)], [0, 5, 3, 7, 0, 0, 8, 10], [0, 0, 3, 4, 12, 0, 15, 0, 11, 9, 17, 18], ce_m82), (3, 2, [(3, 4, 2), (3, 5, 3), (1, 7, 2), (4, 9, 4)], [0, 3, 7, 5, 0, 0, 8, 10], [0, 0, 5, 0, 17, 13, 15, 0, 7, 0, 19, 22], ce_m50), (4, 2, [(3, 4, 2), (3, 5, 3), (1, 7, 2)], [0, 3, 7, 5, 0, 0, 8, 10], [0, 0, 5, 0, 0, 13, 15, 0, 7, 17, 19, 22], ce_m50)]) (by decide +kernel) ce_p389 (ce_pc ce_p134 (ce_pc ce_p82 (ce_pc ce_p50 (ce_pc ce_p50 ce_pn))))
def ce_m651 : Nat → Nat → Int := ce_F 8 12 0x24205100024224004021001020809000204804804100100020a040001000209000040049
theorem ce_p651 : rk_M 2 ce_m651 := ce_st (b1 := 2) (T := ce_m386) (rem := []) (rows := [0, 3, 4, 9, 11, 7, 14, 13]) (cols := [5, 7, 12, 3, 9, 10, 25, 14, 17, 18, 21, 23]) (L := [(0, 2, [(3, 4, 3), (5, 8, 6), (5, 9, 1)], [0, 7, 8, 3, 0, 4, 12, 11], [0, 4, 12, 6, 9, 11, 20, 22, 0, 0, 17, 18], ce_m173), (1, 2, [(3, 4, 3)], [0, 6, 3, 4, 0, 10, 13, 8], [0, 0, 5, 12, 2, 15, 6, 9, 19, 10, 16, 20], ce_m228), (2, 2, [(3, 4, 3), (4, 6, 4)], [0, 13, 4, 6, 0, 8, 2, 10], [0, 0, 0, 22, 15, 12, 0, 4, 9, 10, 2, 6], ce_m156), (6, 2, [(3, 4, 3)], [0, 13, 4, 6, 0, 8, 2, 10], [0, 0, 0, 22, 15, 12, 0, 4, 9, 10, 2, 6], ce_m156)]) (by decide +kernel) ce_p386 (ce_pc ce_p173 (ce_pc ce_p228 (ce_pc ce_p156 (ce_pc ce_p156 ce_pn))))
def ce_m652 : Nat → Nat → Int := ce_F 8 12 0x288048001441081000012010240410400208009009001040201041000001241000048009
theorem ce_p652 : rk_M 2 ce_m652 := ce_st (b1 := 2) (T := ce_m446) (rem := [(1, 1, 4)]) (rows := [0, 5, 8, 11, 3, 7, 13, 14]) (cols := [13, 0, 7, 3, 9, 18, 22, 4, 16, 10, 20, 14]) (L := [(1, 2, [(4, 9, 5), (4, 11, 6)], [0, 12, 2, 6, 5, 11, 8, 14], [10, 0, 16, 15, 2, 8, 18, 4, 6, 0, 12], ce_m438), (6, 2, [(4, 4, 0), (4, 8, 5)], [0, 4, 2, 12, 7, 8, 14, 10], [14, 0, 6, 8, 0, 23, 0, 4, 0, 12, 18, 20], ce_m381), (5, 2, [(4, 2, 0)], [0, 4, 2, 12, 7, 8, 14, 10], [6, 0, 0, 8, 14, 0, 0, 4, 23, 12, 18, 20], ce_m381), (0, 2, [], [0, 4, 2, 12, 7, 8, 14, 10], [0, 0, 6, 8, 14, 0, 0, 4, 23, 12, 18, 20], ce_m381)]) (by decide +kernel) ce_p446 (ce_pc ce_p438 (ce_pc ce_p381 (ce_pc ce_p381 (ce_pc ce_p381 ce_pn))))
def ce_m653 : Nat → Nat → Int := ce_F 8 12 0x412080200088408040480080240240012008240040009001241001000049001000000249
theorem ce_p653 : rk_M 2 ce_m653 := ce_st (b1 := 2) (T := ce_m401) (rem := []) (rows := [0, 2, 4, 8, 7, 15, 10, 13]) (cols := [4, 15, 18, 21, 2, 6, 8, 10, 12, 16, 23, 25]) (L := [(1, 2, [(3, 5, 3), (4, 4, 0), (5, 10, 2), (5, 11, 3)], [0, 4, 6, 2, 12, 0, 9, 11], [14, 0, 7, 9, 0, 16, 4, 10, 18, 21], ce_m155), (2, 2, [(3, 5, 3), (5, 9, 3)], [0, 12, 6, 8, 10, 0, 3, 4], [12, 0, 0, 4, 20, 17, 15, 2, 7, 0, 8, 11], ce_m173), (3, 2, [(3, 5, 3), (4, 6, 0)], [0, 4, 6, 2, 12, 0, 9, 11], [4, 0, 0, 0, 14, 16, 0, 10, 18, 21, 6, 8], ce_m155), (0, 2, [(3, 5, 3)], [0, 4, 6, 2, 12, 0, 9, 11], [0, 0, 0, 0, 14, 16, 4, 10, 18, 21, 6, 8], ce_m155)]) (by decide +kernel) ce_p401 (ce_pc ce_p155 (ce_pc ce_p173 (ce_pc ce_p155 (ce_pc ce_p155 ce_pn))))
def ce_m654 : Nat → Nat → Int := ce_F 8 12 0x24a400040248040041400092008000490048040000249010009200001240001000000049
theorem ce_p654 : rk_M 2 ce_m654 := ce_st (b1 := 2) (T := ce_m395) (rem := []) (rows := [0, 4, 2, 8, 11, 7, 12, 15]) (cols := [10, 19, 20, 4, 2, 6, 8, 12, 14, 17, 24, 22]) (L := [(0, 2, [(5, 6, 1), (5, 7, 2)], [0, 5, 3, 9, 10, 6, 13, 14], [0, 8, 12, 5, 3, 7, 0, 0, 15, 16, 25, 23], ce_m395), (1, 2, [(4, 11, 2)], [0, 5, 3, 9, 10, 6, 13, 14], [0, 0, 23, 5, 3, 7, 9, 13, 15, 16, 25], ce_m395), (2, 2, [], [0, 5, 3, 9, 10, 6, 13, 14], [0, 0, 0, 5, 3, 7, 9, 13, 15, 16, 25, 23], ce_m395)]) (by decide +kernel) ce_p395 (ce_pc ce_p395 (ce_pc ce_p395 (ce_pc ce_p395 ce_pn)))
def ce_m655 : Nat → Nat → Int := ce_F 8 12 0x44a20000808140220009009004020104800104024100100800a008001040201000200049
theorem ce_p655 : rk_M 2 ce_m655 := ce_st (b1 := 2) (T := ce_m380) (rem := [(1, 2, 5)]) (rows := [0, 8, 6, 12, 4, 3, 11, 14]) (cols := [14, 22, 0, 10, 19, 2, 4, 24, 12, 6, 8, 20]) (L := [(2, 2, [(4, 6, 0), (4, 9, 1), (4, 10, 7)], [0, 4, 11, 8, 2, 13, 14, 7], [10, 15, 0, 20, 16, 12, 0, 19, 8, 0, 0, 4], ce_m355), (1, 2, [(4, 7, 4)], [0, 11, 13, 8, 14, 5, 3, 6], [21, 0, 0, 5, 6, 10, 14, 0, 13, 8, 2, 17], ce_m511), (0, 2, [(5, 8, 7)], [0, 4, 11, 8, 2, 13, 14, 7], [0, 0, 0, 20, 16, 12, 10, 9, 0, 15, 19, 4], ce_m355), (7, 2, [], [0, 4, 11, 8, 2, 13, 14, 7], [0, 0, 0, 20, 16, 12, 10, 0, 8, 15, 19, 4], ce_m355)]) (by decide +kernel) ce_p380 (ce_pc ce_p355 (ce_pc ce_p511 (ce_pc ce_p355 (ce_pc ce_p355 ce_pn))))
def ce_m656 : Nat → Nat → Int := ce_F 8 12 0x5148800020224000840801120020004a040008040240040001208001008041000201009
theorem ce_p656 : rk_M 2 ce_m656 := ce_st (b1 := 2) (T := ce_m467) (rem := [(1, 0, 1)]) (rows := [0, 2, 6, 4, 8, 11, 13, 14]) (cols := [0, 10, 2, 8, 13, 4, 14, 23, 6, 16, 18, 20]) (L := [(0, 2, [(5, 8, 7)], [0, 6, 4, 13, 14, 11, 9, 2], [0, 12, 20, 10, 18, 2, 15, 5, 0, 9, 6, 23], ce_m439), (1, 2, [(5, 10, 7), (5, 11, 4)], [0, 2, 14, 4, 12, 9, 7, 10], [0, 0, 2, 12, 15, 6, 16, 25, 4, 10], ce_m378), (7, 2, [], [0, 4, 6, 2, 10, 14, 9, 12], [0, 0, 2, 4, 13, 20, 8, 0, 6, 16, 14, 18], ce_m507), (4, 2, [], [0, 2, 14, 4, 12, 9, 7, 10], [0, 0, 2, 12, 0, 6, 16, 0, 4, 10, 24, 14], ce_m378)]) (by decide +kernel) ce_p467 (ce_pc ce_p439 (ce_pc ce_p378 (ce_pc ce_p507 (ce_pc ce_p378 ce_pn))))
def ce_m657 : Nat → Nat → Int := ce_F 8 12 0x492000440201210008200090408080201048041040201001240200008009200000000049
theorem ce_p657 : rk_M 2 ce_m657 := ce_st (b1 := 2) (T := ce_m456) (rem := [(1, 0, 3)]) (rows := [0, 7, 3, 5, 13, 8, 11, 14]) (cols := [0, 18, 22, 3, 9, 13, 5, 11, 7, 17, 15, 20]) (L := [(0, 2, [(5, 10, 2)], [0, 2, 4, 8, 10, 13, 14, 7], [0, 19, 17, 2, 6, 14, 10, 12, 8, 4, 0, 20], ce_m444), (2, 2, [(4, 11, 1)], [0, 3, 5, 9, 11, 12, 15, 6], [0, 21, 0, 3, 7, 15, 11, 13, 9, 5, 17], ce_m444), (1, 2, [], [0, 3, 5, 9, 11, 12, 15, 6], [0, 0, 0, 3, 7, 15, 11, 13, 9, 5, 17, 21], ce_m444)]) (by decide +kernel) ce_p456 (ce_pc ce_p444 (ce_pc ce_p444 (ce_pc ce_p444 ce_pn)))
def ce_m658 : Nat → Nat → Int := ce_F 8 12 0x44a002040448008041200201009040040049010440200001009001000009201000000049
theorem ce_p658 : rk_M 2 ce_m658 := ce_st (b1 := 2) (T := ce_m413) (rem := [(4, 10, 2)]) (rows := [0, 8, 6, 4, 2, 14, 10, 12]) (cols := [4, 18, 10, 6, 16, 14, 2, 21, 8, 13, 0, 23]) (L := [(1, 2, [(4, 5, 0), (5, 11, 2)], [0, 4, 6, 9, 10, 13, 2, 14], [2, 0, 8, 10, 22, 0, 15, 16, 26, 4, 6], ce_m363), (2, 2, [(4, 4, 0)], [0, 4, 6, 9, 10, 13, 2, 14], [22, 0, 0, 10, 0, 2, 15, 16, 26, 4, 6, 9], ce_m363), (0, 2, [], [0, 4, 6, 9, 10, 13, 2, 14], [0, 0, 0, 10, 22, 2, 15, 16, 26, 4, 6, 9], ce_m363)]) (by decide +kernel) ce_p413 (ce_pc ce_p363 (ce_pc ce_p363 (ce_pc ce_p363 ce_pn)))
def ce_m659 : Nat → Nat → Int := ce_F 8 12 0x91480200442048000208201008200280088000009208040200088008040041001000209
theorem ce_p659 : rk_M 2 ce_m659 := ce_st (b1 := 2) (T := ce_m474) (rem := [(1, 0, 1)]) (rows := [0, 3, 4, 6, 8, 13, 11, 14]) (cols := [0, 8, 3, 18, 12, 10, 5, 14, 22, 7, 16, 20]) (L := [(0, 2, [], [0, 12, 5, 3, 9, 7, 11, 14], [0, 3, 10, 15, 5, 7, 18, 9, 23, 21, 13, 17], ce_m444), (3, 2, [(4, 7, 1), (5, 8, 5)], [0, 5, 14, 3, 10, 9, 7, 12], [0, 21, 13, 0, 5, 3, 9, 0, 0, 11, 23, 18], ce_m395), (8, 2, [], [0, 3, 6, 4, 8, 10, 12, 15], [0, 4, 3, 0, 6, 8, 13, 16, 0, 11, 14, 18], ce_m547), (1, 2, [], [0, 5, 14, 3, 10, 9, 7, 12], [0, 0, 13, 0, 5, 3, 9, 21, 0, 11, 23, 18], ce_m395)]) (by decide +kernel) ce_p474 (ce_pc ce_p444 (ce_pc ce_p395 (ce_pc ce_p547 (ce_pc ce_p395 ce_pn))))
def ce_m660 : Nat → Nat → Int := ce_F 8 12 0x282400440090088200000410448048240001208001041001081200000208201000000049
theorem ce_p660 : rk_M 2 ce_m660 := ce_st (b1 := 2) (T := ce_m456) (rem := [(1, 1, 5)]) (rows := [0, 3, 7, 13, 11, 4, 9, 14]) (cols := [11, 0, 14, 3, 9, 5, 12, 7, 17, 18, 20, 22]) (L := [(1, 2, [(3, 5, 1), (4, 11, 2)], [0, 8, 6, 5, 10, 0, 12, 3], [11, 0, 5, 12, 7, 22, 21, 8, 2, 19, 16], ce_m173), (0, 2, [(3, 5, 1), (5, 7, 2)], [0, 8, 6, 5, 10, 0, 12, 3], [0, 0, 9, 12, 7, 22, 21, 0, 2, 19, 16, 5], ce_m173), (2, 2, [(3, 5, 1)], [0, 8, 6, 5, 10, 0, 12, 3], [0, 0, 0, 12, 7, 22, 21, 8, 2, 19, 16, 5], ce_m173)]) (by decide +kernel) ce_p456 (ce_pc ce_p173 (ce_pc ce_p173 (ce_pc ce_p173 ce_pn)))
def ce_m661 : Nat → Nat → Int := ce_F 8 12 0x480290048248009001001009041008281000400210200002012008040040201000000049
theorem ce_p661 : rk_M 2 ce_m661 := ce_st (b1 := 2) (T := ce_m402) (rem := []) (rows := [0, 4, 6, 2, 8, 11, 13, 14]) (cols := [14, 22, 25, 2, 5, 7, 10, 8, 13, 16, 20, 19]) (L := [(1, 2, [(3, 5, 2), (1, 2, 2), (1, 8, 2)], [0, 6, 3, 9, 4, 0, 10, 13], [2, 0, 0, 8, 4, 6, 13, 10, 0, 14, 16, 18], ce_m312), (2, 2, [(3, 5, 2), (1, 8, 2), (4, 10, 0)], [0, 7, 5, 3, 8, 0, 12, 11], [22, 0, 0, 5, 10, 2, 16, 9, 0, 20, 0, 14], ce_m182), (0, 2, [(3, 5, 2), (1, 8, 2)], [0, 7, 5, 3, 8, 0, 12, 11], [0, 0, 0, 5, 10, 2, 16, 9, 0, 20, 22, 14], ce_m182)]) (by decide +kernel) ce_p402 (ce_pc ce_p312 (ce_pc ce_p182 (ce_pc ce_p182 ce_pn)))
def ce_m662 : Nat → Nat → Int := ce_F 8 12 0x481001048410080440088440008089010008240200201001201200000049200000000049
theorem ce_p662 : rk_M 2 ce_m662 := ce_st (b1 := 2) (T := ce_m382) (rem := [(1, 0, 3)]) (rows := [0, 11, 7, 3, 8, 4, 14, 12]) (cols := [0, 12, 24, 7, 19, 11, 20, 5, 23, 16, 3, 9]) (L := [(0, 2, [(5, 10, 1), (5, 11, 2)], [0, 2, 4, 12, 7, 11, 15, 8], [0, 13, 22, 14, 6, 4, 18, 10, 8, 21], ce_m381), (2, 2, [(4, 9, 1)], [0, 2, 4, 12, 7, 11, 15, 8], [0, 21, 0, 14, 6, 4, 18, 10, 8, 0, 12, 23], ce_m381), (1, 2, [], [0, 2, 4, 12, 7, 11, 15, 8], [0, 0, 0, 14, 6, 4, 18, 10, 8, 21, 12, 23], ce_m381)]) (by decide +kernel) ce_p382 (ce_pc ce_p381 (ce_pc ce_p381 (ce_pc ce_p381 ce_pn)))
def ce_m663 : Nat → Nat → Int := ce_F 8 12 0x241000241412408000050402040008050408008041009001280200000009201000000049
theorem ce_p663 : rk_M 2 ce_m663 := ce_st (b1 := 2) (T := ce_m388) (rem := [(4, 10, 2)]) (rows := [0, 10, 4, 8, 12, 3, 7, 14]) (cols := [18, 22, 15, 12, 4, 17, 11, 2, 8, 6, 0, 20]) (L := [(1, 2, [], [0, 4, 7, 2, 12, 9, 11, 14], [18, 0, 17, 6, 2, 12, 4, 8, 15, 10, 21, 22], ce_m452), (2, 2, [(4, 4, 0)], [0, 11, 5, 9, 13, 2, 6, 15], [5, 0, 0, 13, 0, 16, 10, 3, 9, 7, 14, 21], ce_m388), (0, 2, [], [0, 11, 5, 9, 13, 2, 6, 15], [0, 0, 0, 13, 5, 16, 10, 3, 9, 7, 14, 21], ce_m388)]) (by decide +kernel) ce_p388 (ce_pc ce_p452 (ce_pc ce_p388 (ce_pc ce_p388 ce_pn)))
def ce_m664 : Nat → Nat → Int := ce_F 8 12 0x290000448009440008008450080081001048048000280001008048000201201200040009
theorem ce_p664 : rk_M 2 ce_m664 := ce_st (b1 := 2) (T := ce_m522) (rem := [(1, 0, 1), (1, 11, 7)]) (rows := [0, 2, 7, 4, 10, 13, 15, 9]) (cols := [0, 19, 9, 2, 4, 11, 21, 6, 15, 16, 12]) (L := [(0, 2, [(5, 7, 6)], [0, 12, 4, 7, 10, 3, 9, 14], [0, 12, 4, 17, 18, 2, 9, 0, 10, 7, 15, 21], ce_m513), (11, 2, [(4, 8, 1)], [0, 5, 3, 12, 7, 8, 11, 15], [0, 7, 13, 15, 5, 3, 22, 9, 0, 18, 20], ce_m450), (6, 2, [], [0, 5, 8, 7, 14, 10, 2, 12], [0, 19, 13, 7, 11, 15, 0, 3, 4, 8, 17], ce_m548), (1, 2, [(3, 7, 3)], [0, 8, 3, 6, 11, 4, 13], [0, 0, 5, 10, 20, 3, 0, 17, 9, 14, 18], ce_m155)]) (by decide +kernel) ce_p522 (ce_pc ce_p513 (ce_pc ce_p450 (ce_pc ce_p548 (ce_pc ce_p155 ce_pn))))
def ce_m665 : Nat → Nat → Int := ce_F 8 12 0x250201000251000200201040048040208009001402200008000049200011040040080201
theorem ce_p665 : rk_M 2 ce_m665 := ce_st (b1 := 2) (T := ce_m482) (rem := [(1, 6, 5)]) (rows := [0, 4, 6, 8, 14, 2, 10, 12]) (cols := [14, 4, 2, 16, 8, 13, 0, 21, 6, 18, 22, 10]) (L := [(6, 2, [(4, 1, 0), (4, 8, 3)], [0, 8, 15, 6, 10, 4, 2, 12], [14, 0, 12, 4, 19, 11, 0, 17, 0, 9, 6, 2], ce_m384), (0, 2, [(5, 10, 9)], [0, 2, 8, 10, 7, 4, 12, 14], [0, 8, 6, 12, 18, 5, 0, 21, 10, 22, 0, 14], ce_m381), (3, 2, [(4, 10, 7)], [0, 2, 10, 7, 15, 4, 12, 8], [0, 16, 2, 0, 4, 9, 0, 20, 10, 26, 0, 6], ce_m349), (10, 2, [], [0, 2, 10, 7, 15, 4, 12, 8], [0, 16, 2, 0, 4, 9, 0, 20, 10, 26, 0, 6], ce_m349)]) (by decide +kernel) ce_p482 (ce_pc ce_p384 (ce_pc ce_p381 (ce_pc ce_p349 (ce_pc ce_p349 ce_pn))))
def ce_m666 : Nat → Nat → Int := ce_F 8 12 0x202290008248009001001009041200281000080210200002012008008040201000000049
theorem ce_p666 : rk_M 2 ce_m666 := ce_st (b1 := 2) (T := ce_m470) (rem := [(1, 2, 5)]) (rows := [0, 5, 9, 3, 11, 6, 12, 15]) (cols := [11, 21, 0, 3, 4, 6, 13, 9, 14, 19, 16, 23]) (L := [(2, 2, [(3, 5, 2), (5, 8, 1), (4, 9, 0)], [0, 4, 9, 7, 10, 0, 2, 13], [4, 23, 0, 6, 8, 12, 18, 21, 0, 0, 2, 16], ce_m173), (1, 2, [(3, 5, 2)], [0, 3, 9, 5, 6, 0, 12, 10], [11, 0, 0, 5, 8, 12, 3, 7, 19, 15, 16, 20], ce_m263), (0, 2, [(3, 5, 2)], [0, 4, 9, 7, 10, 0, 2, 13], [0, 0, 0, 6, 8, 12, 18, 21, 22, 4, 2, 16], ce_m173)]) (by decide +kernel) ce_p470 (ce_pc ce_p173 (ce_pc ce_p263 (ce_pc ce_p173 ce_pn)))
def ce_m667 : Nat → Nat → Int := ce_F 8 12 0x401240040410040240089000408040208041208001009009200400000051200000000049
theorem ce_p667 : rk_M 2 ce_m667 := ce_st (b1 := 2) (T := ce_m412) (rem := []) (rows := [0, 2, 5, 12, 11, 7, 8, 14]) (cols := [21, 19, 22, 2, 6, 5, 8, 13, 11, 15, 16, 25]) (L := [(0, 2, [(5, 10, 1), (5, 11, 2)], [0, 4, 14, 10, 9, 6, 12, 2], [0, 12, 16, 6, 10, 9, 2, 14, 4, 19], ce_m405), (1, 2, [], [0, 3, 8, 7, 4, 12, 15, 10], [0, 0, 12, 9, 5, 2, 17, 6, 20, 11, 14, 19], ce_m524), (2, 2, [], [0, 4, 14, 10, 9, 6, 12, 2], [0, 0, 0, 6, 10, 9, 2, 14, 4, 19, 13, 17], ce_m405)]) (by decide +kernel) ce_p412 (ce_pc ce_p405 (ce_pc ce_p524 (ce_pc ce_p405 ce_pn)))
def ce_m668 : Nat → Nat → Int := ce_F 8 12 0x248201001012408200410042040009080408040240041000488008000001201000000049
theorem ce_p668 : rk_M 2 ce_m668 := ce_st (b1 := 2) (T := ce_m407) (rem := []) (rows := [0, 2, 5, 10, 7, 13, 8, 14]) (cols := [4, 9, 18, 2, 6, 10, 12, 15, 17, 21, 22, 24]) (L := [(1, 2, [(4, 6, 2)], [0, 2, 5, 6, 11, 9, 12, 14], [2, 0, 8, 6, 4, 13, 0, 10, 21, 15, 16, 18], ce_m521), (2, 2, [(4, 4, 0)], [0, 2, 4, 11, 9, 15, 6, 12], [6, 0, 0, 2, 0, 8, 14, 13, 17, 21, 19, 24], ce_m407), (0, 2, [], [0, 2, 4, 11, 9, 15, 6, 12], [0, 0, 0, 2, 6, 8, 14, 13, 17, 21, 19, 24], ce_m407)]) (by decide +kernel) ce_p407 (ce_pc ce_p521 (ce_pc ce_p407 (ce_pc ce_p407 ce_pn)))
def ce_m669 : Nat → Nat → Int := ce_F 8 12 0x44208120000a410240000281080201200008040000248000010248001048001008001201
theorem ce_p669 : rk_M 2 ce_m669 := ce_st (b1 := 2) (T := ce_m531) (rem := [(1, 0, 1), (1, 9, 6)]) (rows := [0, 3, 4, 10, 7, 8, 12, 14]) (cols := [0, 8, 10, 14, 18, 3, 7, 13, 5, 0, 20, 17]) (L := [(0, 2, [(5, 6, 4)], [0, 12, 6, 4, 9, 3, 14, 11], [0, 8, 2, 10, 7, 19, 0, 5, 17, 20, 12, 15], ce_m519), (9, 2, [], [0, 5, 2, 10, 6, 9, 12, 14], [0, 4, 6, 8, 23, 3, 13, 15, 19, 0, 24, 20], ce_m378), (4, 2, [(4, 3, 2)], [0, 12, 2, 6, 8, 5, 10, 15], [0, 4, 2, 0, 0, 13, 14, 9, 23, 0, 18, 20], ce_m360), (3, 2, [], [0, 12, 2, 6, 8, 5, 10, 15], [0, 4, 2, 0, 0, 13, 14, 9, 23, 0, 18, 20], ce_m360)]) (by decide +kernel) ce_p531 (ce_pc ce_p519 (ce_pc ce_p378 (ce_pc ce_p360 (ce_pc ce_p360 ce_pn))))
def ce_m670 : Nat → Nat → Int := ce_F 8 12 0x481400200212008040002080448240240001048001009000409200001040201000000049
theorem ce_p670 : rk_M 2 ce_m670 := ce_st (b1 := 2) (T := ce_m412) (rem := []) (rows := [0, 4, 2, 10, 15, 7, 12, 8]) (cols := [12, 17, 19, 2, 4, 6, 10, 9, 14, 20, 23, 25]) (L := [(1, 2, [(3, 5, 1), (4, 6, 0), (5, 9, 2)], [0, 5, 6, 13, 3, 0, 9, 10], [5, 0, 23, 15, 20, 10, 0, 3, 13, 0, 9, 7], ce_m156), (2, 2, [(3, 5, 1)], [0, 8, 5, 6, 12, 0, 3, 10], [12, 0, 0, 11, 7, 5, 22, 18, 8, 2, 20, 17], ce_m173), (0, 2, [(3, 5, 1)], [0, 5, 6, 13, 3, 0, 9, 10], [0, 0, 0, 15, 20, 10, 5, 3, 13, 22, 9, 7], ce_m156)]) (by decide +kernel) ce_p412 (ce_pc ce_p156 (ce_pc ce_p173 (ce_pc ce_p156 ce_pn)))
def ce_m671 : Nat → Nat → Int := ce_F 8 12 0x292010040041202008040048009200200049001280200008009001000009201000000049
theorem ce_p671 : rk_M 2 ce_m671 := ce_st (b1 := 2) (T := ce_m361) (rem := [(4, 11, 2)]) (rows := [0, 2, 12, 4, 10, 6, 15, 9]) (cols := [6, 20, 13, 4, 8, 2, 11, 16, 14, 22, 18]) (L := [(2, 2, [(4, 5, 0), (4, 10, 1)], [0, 3, 13, 5, 11, 7, 14, 8], [3, 19, 0, 5, 9, 0, 10, 17, 15, 23, 0, 12], ce_m361), (1, 2, [(4, 4, 0)], [0, 3, 13, 5, 11, 7, 14, 8], [9, 0, 0, 5, 0, 3, 10, 17, 15, 23, 19, 12], ce_m361), (0, 2, [], [0, 3, 13, 5, 11, 7, 14, 8], [0, 0, 0, 5, 9, 3, 10, 17, 15, 23, 19, 12], ce_m361)]) (by decide +kernel) ce_p361 (ce_pc ce_p361 (ce_pc ce_p361 (ce_pc ce_p361 ce_pn)))
def ce_m672 : Nat → Nat → Int := ce_F 8 12 0x49000a040242040008002002448208200009040411000010048200001001201000000049
theorem ce_p672 : rk_M 2 ce_m672 := ce_st (b1 := 2) (T := ce_m414) (rem := []) (rows := [0, 3, 5, 7, 11, 8, 13, 14]) (cols := [9, 20, 24, 3, 5, 7, 11, 12, 15, 16, 19, 23]) (L := [(0, 2, [(3, 5, 1), (5, 8, 1)], [0, 3, 5, 9, 10, 0, 6, 12], [0, 2, 21, 5, 11, 18, 9, 6, 0, 12, 17, 14], ce_m285), (2, 2, [(3, 5, 1), (4, 11, 1)], [0, 13, 6, 3, 4, 0, 9, 10], [0, 12, 0, 20, 9, 2, 10, 4, 22, 14, 7], ce_m156), (1, 2, [(3, 5, 1)], [0, 13, 6, 3, 4, 0, 9, 10], [0, 0, 0, 20, 9, 2, 10, 4, 22, 14, 7, 12], ce_m156)]) (by decide +kernel) ce_p414 (ce_pc ce_p285 (ce_pc ce_p156 (ce_pc ce_p156 ce_pn)))
def ce_m673 : Nat → Nat → Int := ce_F 8 12 0x252440000488012200200008081040001048008000209001008081000201048000040209
theorem ce_p673 : rk_M 2 ce_m673 := ce_st (b1 := 2) (T := ce_m487) (rem := [(1, 6, 7)]) (rows := [0, 5, 6, 3, 9, 10, 14, 12]) (cols := [6, 3, 5, 23, 9, 10, 0, 13, 14, 17, 19, 20]) (L := [(6, 2, [(4, 9, 3)], [0, 9, 11, 3, 5, 7, 13, 14], [7, 3, 9, 5, 12, 10, 0, 19, 21, 0, 16, 14], ce_m525), (3, 2, [(0, 3, 9), (4, 4, 1), (4, 5, 0)], [0, 6, 11, 0, 4, 3, 12, 9], [9, 14, 4, 0, 0, 0, 0, 10, 20, 22, 16, 7], ce_m155), (0, 2, [(0, 3, 9), (4, 2, 1)], [0, 6, 11, 0, 4, 3, 12, 9], [0, 4, 0, 0, 14, 9, 0, 10, 20, 22, 16, 7], ce_m155), (1, 2, [(0, 3, 9)], [0, 6, 11, 0, 4, 3, 12, 9], [0, 0, 4, 0, 14, 9, 0, 10, 20, 22, 16, 7], ce_m155)]) (by decide +kernel) ce_p487 (ce_pc ce_p525 (ce_pc ce_p155 (ce_pc ce_p155 (ce_pc ce_p155 ce_pn))))
def ce_m674 : Nat → Nat → Int := ce_F 8 12 0x44a001040200289000008201041002080448040009200010402008001040201000000049
theorem ce_p674 : rk_M 2 ce_m674 := ce_st (b1 := 2) (T := ce_m409) (rem := []) (rows := [0, 4, 7, 2, 9, 12, 10, 14]) (cols := [8, 11, 23, 2, 4, 6, 12, 14, 16, 18, 20, 24]) (L := [(0, 2, [(3, 4, 1), (3, 5, 2), (5, 8, 2)], [0, 2, 5, 6, 0, 0, 8, 10], [0, 4, 10, 8, 6, 16, 3, 12, 0, 14, 18, 20], ce_m71), (1, 2, [(3, 4, 1), (3, 5, 2), (4, 9, 2)], [0, 3, 4, 7, 0, 0, 8, 11], [0, 0, 15, 5, 11, 17, 7, 9, 13, 0, 19, 20], ce_m63), (2, 2, [(3, 4, 1), (3, 5, 2)], [0, 3, 4, 7, 0, 0, 8, 11], [0, 0, 0, 5, 11, 17, 7, 9, 13, 15, 19, 20], ce_m63)]) (by decide +kernel) ce_p409 (ce_pc ce_p71 (ce_pc ce_p63 (ce_pc ce_p63 ce_pn)))
def ce_m675 : Nat → Nat → Int := ce_F 8 12 0x488480040252000200002480240200211000040048001008001041001240008000000248
theorem ce_p675 : rk_M 2 ce_m675 := ce_st (b1 := 2) (T := ce_m484) (rem := [(1, 1, 1)]) (rows := [0, 3, 8, 5, 7, 10, 12, 14]) (cols := [11, 0, 18, 22, 13, 9, 3, 7, 5, 21, 16, 14]) (L := [(1, 2, [(3, 5, 1), (5, 8, 3)], [0, 9, 2, 4, 6, 0, 10, 12], [4, 0, 10, 6, 2, 8, 19, 17, 0, 21, 12, 14], ce_m285), (3, 2, [(3, 5, 1), (4, 9, 2)], [0, 4, 12, 7, 9, 0, 3, 10], [21, 0, 8, 0, 23, 11, 14, 12, 4, 0, 3, 7], ce_m156), (2, 2, [(3, 5, 1)], [0, 4, 12, 7, 9, 0, 3, 10], [21, 0, 0, 0, 23, 11, 14, 12, 4, 8, 3, 7], ce_m156)]) (by decide +kernel) ce_p484 (ce_pc ce_p285 (ce_pc ce_p156 (ce_pc ce_p156 ce_pn)))
def ce_m676 : Nat → Nat → Int := ce_F 8 12 0x28200804000240044820820100104804000901000a20000004a200001200201000000049
theorem ce_p676 : rk_M 2 ce_m676 := ce_st (b1 := 2) (T := ce_m421) (rem := []) (rows := [0, 6, 2, 4, 14, 11, 9, 12]) (cols := [16, 21, 19, 2, 5, 6, 8, 12, 14, 11, 25, 23]) (L := [(1, 2, [(3, 6, 1), (4, 7, 0), (5, 10, 2)], [0, 4, 6, 2, 9, 11, 0, 12], [12, 0, 22, 2, 5, 6, 16, 0, 14, 9, 0, 25], ce_m158), (2, 2, [(3, 6, 1)], [0, 5, 7, 3, 8, 10, 0, 13], [11, 0, 0, 3, 4, 7, 17, 13, 15, 8, 22, 24], ce_m158), (0, 2, [(3, 6, 1)], [0, 4, 6, 2, 9, 11, 0, 12], [0, 0, 0, 2, 5, 6, 16, 12, 14, 9, 23, 25], ce_m158)]) (by decide +kernel) ce_p421 (ce_pc ce_p158 (ce_pc ce_p158 (ce_pc ce_p158 ce_pn)))
def ce_m677 : Nat → Nat → Int := ce_F 8 12 0x280440040090010048201000049208041000002041200000211008040008201000000049
theorem ce_p677 : rk_M 2 ce_m677 := ce_st (b1 := 2) (T := ce_m430) (rem := []) (rows := [0, 5, 9, 3, 7, 14, 12, 11]) (cols := [13, 23, 25, 3, 5, 9, 7, 17, 10, 15, 19, 21]) (L := [(0, 2, [(5, 5, 1), (5, 10, 2)], [0, 4, 15, 12, 2, 10, 7, 8], [0, 13, 7, 14, 16, 0, 10, 21, 22, 2, 0, 4], ce_m352), (1, 2, [(5, 7, 2)], [0, 4, 15, 12, 2, 10, 7, 8], [0, 0, 20, 14, 16, 12, 10, 0, 22, 2, 6, 4], ce_m352), (2, 2, [], [0, 4, 15, 12, 2, 10, 7, 8], [0, 0, 0, 14, 16, 12, 10, 21, 22, 2, 6, 4], ce_m352)]) (by decide +kernel) ce_p430 (ce_pc ce_p352 (ce_pc ce_p352 (ce_pc ce_p352 ce_pn)))
def ce_m678 : Nat → Nat → Int := ce_F 8 12 0x252240000040248000240001200012010040008081002001400201000248008000001248
theorem ce_p678 : rk_M 2 ce_m678 := ce_st (b1 := 2) (T := ce_m539) (rem := [(1, 1, 1), (1, 2, 4)]) (rows := [0, 2, 9, 11, 5, 12, 6, 14]) (cols := [13, 0, 0, 15, 17, 4, 6, 2, 10, 8, 18, 20]) (L := [(1, 2, [], [0, 12, 3, 4, 8, 7, 10, 14], [7, 0, 21, 3, 12, 14, 19, 4, 9, 10, 16, 22], ce_m479), (2, 2, [], [0, 4, 9, 11, 7, 14, 2, 12], [11, 0, 0, 22, 20, 4, 6, 2, 18, 16, 8, 24], ce_m384), (3, 2, [(5, 4, 0)], [0, 4, 9, 11, 7, 14, 2, 12], [11, 0, 0, 0, 0, 4, 6, 2, 18, 16, 8, 24], ce_m384), (4, 2, [], [0, 4, 9, 11, 7, 14, 2, 12], [11, 0, 0, 0, 0, 4, 6, 2, 18, 16, 8, 24], ce_m384)]) (by decide +kernel) ce_p539 (ce_pc ce_p479 (ce_pc ce_p384 (ce_pc ce_p384 (ce_pc ce_p384 ce_pn))))
def ce_m679 : Nat → Nat → Int := ce_F 8 12 0x452400008000492040200240400088001200008009200002041008001208001000000049
theorem ce_p679 : rk_M 2 ce_m679 := ce_st (b1 := 2) (T := ce_m536) (rem := [(1, 0, 1), (1, 2, 6)]) (rows := [0, 3, 10, 7, 13, 9, 4, 14]) (cols := [0, 18, 0, 11, 13, 3, 9, 5, 7, 15, 20, 17]) (L := [(0, 2, [(5, 8, 1)], [0, 14, 5, 3, 11, 8, 12, 6], [0, 7, 24, 9, 3, 15, 11, 19, 0, 5, 20, 17], ce_m383), (2, 2, [], [0, 5, 9, 3, 11, 6, 12, 14], [0, 23, 0, 5, 7, 3, 15, 19, 13, 9, 24, 20], ce_m378), (1, 2, [], [0, 5, 9, 3, 11, 6, 12, 14], [0, 0, 0, 5, 7, 3, 15, 19, 13, 9, 24, 20], ce_m378)]) (by decide +kernel) ce_p536 (ce_pc ce_p383 (ce_pc ce_p378 (ce_pc ce_p378 ce_pn)))
def ce_m680 : Nat → Nat → Int := ce_F 8 12 0x24a24000020021040004004a000011002400008240008000091040000408201001000049
theorem ce_p680 : rk_M 2 ce_m680 := ce_st (b1 := 2) (T := ce_m408) (rem := [(1, 0, 1), (1, 1, 3), (1, 2, 2)]) (rows := [0, 6, 5, 12, 2, 8, 11, 14]) (cols := [0, 0, 0, 6, 3, 4, 12, 15, 18, 17, 22, 25]) (L := [(0, 2, [], [0, 12, 3, 10, 6, 4, 9, 14], [0, 20, 15, 11, 5, 2, 6, 13, 22, 9, 16, 19], ce_m480), (1, 2, [(5, 9, 8)], [0, 7, 13, 4, 3, 14, 10, 8], [0, 0, 9, 7, 16, 15, 12, 4, 3, 0, 22, 20], ce_m408), (2, 2, [], [0, 3, 10, 12, 6, 9, 4, 14], [0, 0, 0, 3, 7, 5, 13, 8, 14, 17, 21, 18], ce_m477), (8, 2, [], [0, 13, 7, 4, 3, 10, 14, 8], [0, 0, 0, 16, 7, 14, 4, 12, 0, 2, 20, 22], ce_m408)]) (by decide +kernel) ce_p408 (ce_pc ce_p480 (ce_pc ce_p408 (ce_pc ce_p477 (ce_pc ce_p408 ce_pn))))
def ce_m681 : Nat → Nat → Int := ce_F 8 12 0x288480008002480048200409000040048200008002208001240001000049001000000049
theorem ce_p681 : rk_M 2 ce_m681 := ce_st (b1 := 2) (T := ce_m491) (rem := [(1, 2, 6)]) (rows := [0, 5, 3, 8, 7, 13, 10, 14]) (cols := [3, 16, 0, 7, 11, 9, 13, 15, 5, 20, 19, 23]) (L := [(2, 2, [(3, 6, 2), (1, 8, 2), (4, 9, 1)], [0, 5, 3, 9, 7, 12, 0, 10], [3, 21, 0, 11, 17, 15, 5, 9, 0, 0, 19, 24], ce_m155), (0, 2, [(3, 6, 2), (1, 8, 2)], [0, 7, 5, 2, 8, 11, 0, 12], [0, 2, 0, 4, 9, 19, 11, 13, 0, 14, 21, 22], ce_m194), (1, 2, [(3, 6, 2), (1, 8, 2)], [0, 5, 3, 9, 7, 12, 0, 10], [0, 0, 0, 11, 17, 15, 5, 9, 0, 21, 19, 24], ce_m155)]) (by decide +kernel) ce_p491 (ce_pc ce_p155 (ce_pc ce_p194 (ce_pc ce_p155 ce_pn)))
def ce_m682 : Nat → Nat → Int := ce_F 8 12 0x289040000442010040410202008040480200008050040001002208200009001000000049
theorem ce_p682 : rk_M 2 ce_m682 := ce_st (b1 := 2) (T := ce_m492) (rem := [(1, 0, 1)]) (rows := [0, 3, 4, 6, 8, 10, 12, 15]) (cols := [0, 12, 14, 8, 3, 5, 10, 16, 18, 21, 22, 7]) (L := [(0, 2, [(5, 4, 1), (5, 5, 2)], [0, 2, 7, 5, 14, 11, 13, 8], [0, 5, 3, 21, 0, 0, 13, 25, 14, 11, 23, 6], ce_m378), (1, 2, [], [0, 3, 6, 4, 15, 10, 12, 9], [0, 0, 16, 20, 5, 3, 12, 24, 15, 10, 22, 7], ce_m378), (2, 2, [], [0, 2, 7, 5, 14, 11, 13, 8], [0, 0, 0, 21, 4, 2, 13, 25, 14, 11, 23, 6], ce_m378)]) (by decide +kernel) ce_p492 (ce_pc ce_p378 (ce_pc ce_p378 (ce_pc ce_p378 ce_pn)))
def ce_m683 : Nat → Nat → Int := ce_F 8 12 0x28924000000249004004240020000104a000050008008200201008008040201000000049
theorem ce_p683 : rk_M 2 ce_m683 := ce_st (b1 := 2) (T := ce_m534) (rem := [(1, 0, 1), (1, 2, 6)]) (rows := [0, 2, 13, 11, 6, 4, 9, 14]) (cols := [0, 11, 0, 2, 9, 12, 4, 17, 15, 6, 18, 21]) (L := [(0, 2, [], [0, 7, 9, 11, 4, 3, 15, 12], [0, 16, 25, 3, 7, 10, 14, 12, 4, 20, 9, 22], ce_m397), (2, 2, [], [0, 7, 9, 11, 4, 3, 15, 12], [0, 18, 0, 3, 7, 10, 14, 12, 4, 20, 9, 22], ce_m397), (1, 2, [], [0, 7, 9, 11, 4, 3, 15, 12], [0, 0, 0, 3, 7, 10, 14, 12, 4, 20, 9, 22], ce_m397)]) (by decide +kernel) ce_p534 (ce_pc ce_p397 (ce_pc ce_p397 (ce_pc ce_p397 ce_pn)))
def ce_m684 : Nat → Nat → Int := ce_F 8 12 0x480408200088408200242001040050080040000240408001200009000008048000001201
theorem ce_p684 : rk_M 2 ce_m684 := ce_st (b1 := 2) (T := ce_m540) (rem := [(1, 0, 2), (1, 4, 5)]) (rows := [0, 5, 3, 7, 11, 8, 14, 12]) (cols := [0, 3, 7, 20, 0, 11, 13, 9, 5, 18, 14, 16]) (L := [(0, 2, [(5, 7, 3), (5, 8, 4)], [0, 10, 4, 14, 2, 6, 9, 13], [0, 10, 6, 13, 5, 21, 15, 0, 0, 3, 8, 22], ce_m365), (4, 2, [], [0, 2, 4, 6, 8, 10, 13, 15], [0, 2, 4, 17, 0, 10, 12, 6, 8, 15, 18, 20], ce_m535), (3, 2, [], [0, 10, 4, 14, 2, 6, 9, 13], [0, 10, 6, 0, 0, 21, 15, 12, 4, 3, 8, 22], ce_m365)]) (by decide +kernel) ce_p540 (ce_pc ce_p365 (ce_pc ce_p535 (ce_pc ce_p365 ce_pn)))
def ce_m685 : Nat → Nat → Int := ce_F 8 12 0x212200040080490008200241000040200440008011008001048001000048201000000049
theorem ce_p685 : rk_M 2 ce_m685 := ce_st (b1 := 2) (T := ce_m431) (rem := []) (rows := [0, 3, 5, 8, 10, 7, 12, 14]) (cols := [3, 18, 24, 5, 7, 11, 9, 13, 15, 20, 22, 17]) (L := [(0, 2, [(5, 5, 1)], [0, 11, 7, 2, 4, 8, 12, 14], [0, 6, 8, 15, 4, 0, 19, 10, 21, 12, 16, 22], ce_m357), (1, 2, [], [0, 3, 9, 4, 12, 10, 6, 14], [0, 0, 13, 5, 6, 3, 9, 21, 23, 14, 17, 24], ce_m399), (2, 2, [], [0, 12, 7, 8, 14, 2, 11, 4], [0, 0, 0, 28, 4, 17, 14, 18, 9, 11, 26, 2], ce_m351)]) (by decide +kernel) ce_p431 (ce_pc ce_p357 (ce_pc ce_p399 (ce_pc ce_p351 ce_pn)))
def ce_m686 : Nat → Nat → Int := ce_F 8 12 0x4248004020a000048200049000050001200002480040000210208001048001000000049
theorem ce_p686 : rk_M 2 ce_m686 := ce_st (b1 := 2) (T := ce_m497) (rem := [(1, 0, 1)]) (rows := [0, 3, 6, 8, 11, 5, 14, 12]) (cols := [0, 16, 22, 10, 9, 3, 5, 12, 7, 20, 19, 15]) (L := [(0, 2, [(5, 8, 2)], [0, 10, 4, 3, 14, 8, 13, 7], [0, 12, 9, 10, 22, 7, 4, 2, 0, 25, 19, 20], ce_m362), (1, 2, [(5, 7, 2)], [0, 10, 4, 3, 14, 8, 13, 7], [0, 0, 3, 10, 22, 7, 4, 0, 8, 25, 19, 20], ce_m362), (2, 2, [], [0, 10, 4, 3, 14, 8, 13, 7], [0, 0, 0, 10, 22, 7, 4, 2, 8, 25, 19, 20], ce_m362)]) (by decide +kernel) ce_p497 (ce_pc ce_p362 (ce_pc ce_p362 (ce_pc ce_p362 ce_pn)))
def ce_m687 : Nat → Nat → Int := ce_F 8 12 0x290001201048010440042200002009042000200240200048000048000001041000008208
theorem ce_p687 : rk_M 2 ce_m687 := ce_st (b1 := 2) (T := ce_m539) (rem := [(1, 1, 2), (1, 5, 6)]) (rows := [0, 5, 3, 12, 9, 11, 7, 14]) (cols := [9, 0, 5, 18, 11, 0, 15, 17, 13, 3, 7, 20]) (L := [(1, 2, [(2, 6, 2), (1, 5, 2)], [0, 5, 3, 12, 7, 9, 0, 10], [13, 0, 5, 8, 15, 0, 21, 23, 11, 3, 7, 24], ce_m156), (5, 2, [(2, 6, 2), (4, 11, 3)], [0, 2, 4, 12, 7, 9, 0, 10], [6, 0, 4, 24, 2, 0, 21, 23, 11, 14, 12], ce_m156), (3, 2, [(2, 6, 2)], [0, 2, 4, 12, 7, 9, 0, 10], [6, 0, 4, 0, 2, 0, 21, 23, 11, 14, 12, 24], ce_m156)]) (by decide +kernel) ce_p539 (ce_pc ce_p156 (ce_pc ce_p156 (ce_pc ce_p156 ce_pn)))
def ce_m688 : Nat → Nat → Int := ce_F 8 12 0x250480200002481200200090040040408001008000441001240008000001208000000049
theorem ce_p688 : rk_M 2 ce_m688 := ce_st (b1 := 2) (T := ce_m367) (rem := []) (rows := [0, 2, 6, 9, 5, 11, 12, 14]) (cols := [7, 2, 21, 12, 4, 9, 22, 14, 18, 25, 17, 27]) (L := [(0, 2, [(5, 5, 2)], [0, 2, 6, 9, 11, 5, 12, 14], [0, 10, 9, 12, 4, 0, 14, 22, 18, 25, 27, 17], ce_m367), (1, 2, [], [0, 2, 6, 9, 5, 11, 12, 14], [0, 0, 11, 12, 4, 9, 22, 14, 18, 25, 17, 27], ce_m367), (2, 2, [], [0, 2, 6, 9, 5, 11, 12, 14], [0, 0, 0, 12, 4, 9, 22, 14, 18, 25, 17, 27], ce_m367)]) (by decide +kernel) ce_p367 (ce_pc ce_p367 (ce_pc ce_p367 (ce_pc ce_p367 ce_pn)))
def ce_m689 : Nat → Nat → Int := ce_F 8 12 0x49002200201408200402200040041080008000280048008040201000008240000001009
theorem ce_p689 : rk_M 2 ce_m689 := ce_st (b1 := 2) (T := ce_m543) (rem := [(1, 0, 2), (1, 4, 7)]) (rows := [0, 4, 2, 9, 11, 12, 14, 6]) (cols := [0, 15, 8, 2, 0, 10, 6, 19, 16, 4, 12, 20]) (L := [(0, 2, [(5, 6, 1), (5, 9, 4)], [0, 13, 6, 3, 9, 15, 10, 4], [0, 3, 7, 12, 9, 18, 0, 5, 15, 0, 11, 22], ce_m407), (4, 2, [], [0, 2, 4, 6, 11, 8, 12, 14], [0, 12, 2, 4, 0, 8, 6, 15, 16, 10, 18, 20], ce_m541), (1, 2, [], [0, 13, 6, 3, 9, 15, 10, 4], [0, 0, 7, 12, 0, 18, 2, 5, 15, 8, 11, 22], ce_m407)]) (by decide +kernel) ce_p543 (ce_pc ce_p407 (ce_pc ce_p541 (ce_pc ce_p407 ce_pn)))
def ce_m690 : Nat → Nat → Int := ce_F 8 12 0x490000048402280000011011000080048200011400008248000001000201201000000049
theorem ce_p690 : rk_M 2 ce_m690 := ce_st (b1 := 2) (T := ce_m422) (rem := [(1, 2, 7)]) (rows := [0, 2, 12, 9, 10, 4, 6, 14]) (cols := [10, 21, 0, 8, 2, 13, 15, 4, 6, 19, 23, 17]) (L := [(2, 2, [(3, 7, 2), (1, 1, 3)], [0, 6, 11, 8, 5, 2, 13], [16, 0, 0, 11, 4, 3, 15, 24, 8, 7, 12, 19], ce_m164), (0, 2, [(3, 7, 2)], [0, 2, 10, 9, 4, 6, 12], [0, 7, 0, 2, 4, 10, 14, 8, 24, 23, 13, 18], ce_m164), (1, 2, [(3, 7, 2)], [0, 5, 9, 2, 12, 10, 7], [0, 0, 0, 15, 13, 25, 18, 3, 4, 9, 23, 16], ce_m158)]) (by decide +kernel) ce_p422 (ce_pc ce_p164 (ce_pc ce_p164 (ce_pc ce_p158 ce_pn)))
def ce_m691 : Nat → Nat → Int := ce_F 8 12 0x291000000200090200048200008201200008010042040080009001002000241000000049
theorem ce_p691 : rk_M 2 ce_m691 := ce_st (b1 := 2) (T := ce_m369) (rem := [(4, 7, 1)]) (rows := [0, 2, 6, 10, 9, 5, 12, 15]) (cols := [2, 9, 4, 6, 18, 20, 22, 0, 11, 15, 13, 27]) (L := [(0, 2, [(5, 4, 2)], [0, 10, 12, 4, 3, 7, 15, 9], [0, 9, 14, 24, 0, 26, 16, 3, 5, 7, 19, 11], ce_m366), (1, 2, [], [0, 10, 4, 12, 3, 7, 15, 9], [0, 0, 8, 24, 14, 16, 26, 3, 5, 19, 7, 11], ce_m366), (2, 2, [], [0, 5, 11, 15, 6, 2, 12, 9], [0, 0, 0, 15, 25, 23, 27, 2, 6, 10, 4, 18], ce_m366)]) (by decide +kernel) ce_p369 (ce_pc ce_p366 (ce_pc ce_p366 (ce_pc ce_p366 ce_pn)))
def ce_m692 : Nat → Nat → Int := ce_F 8 12 0x208210000009081000481000200080240008000009408240000041000000241000000009
theorem ce_p692 : rk_M 2 ce_m692 := ce_st (b1 := 2) (T := ce_m434) (rem := [(4, 2, 0)]) (rows := [0, 3, 5, 12, 10, 7, 9, 15]) (cols := [3, 20, 0, 5, 16, 24, 10, 22, 9, 19, 13, 15]) (L := [(0, 2, [], [0, 2, 4, 13, 15, 6, 8, 10], [0, 7, 2, 4, 17, 21, 19, 22, 8, 10, 14, 12], ce_m434), (1, 2, [], [0, 2, 4, 13, 15, 6, 8, 10], [0, 0, 2, 4, 17, 21, 19, 22, 8, 10, 14, 12], ce_m434)]) (by decide +kernel) ce_p434 (ce_pc ce_p434 (ce_pc ce_p434 ce_pn))
def ce_m693 : Nat → Nat → Int := ce_F 8 11 0x20a40024104000924a010408008408408040240048040448000048040200000049
theorem ce_p693 : rk_M 2 ce_m693 := ce_st (b1 := 2) (T := ce_m438) (rem := [(4, 10, 2)]) (rows := [0, 6, 4, 8, 15, 3, 10, 13]) (cols := [6, 20, 17, 8, 4, 19, 2, 22, 14, 12]) (L := [(0, 2, [(5, 6, 2), (5, 7, 1)], [0, 12, 2, 9, 5, 7, 14, 11], [0, 11, 13, 14, 4, 7, 0, 0, 18, 9, 21], ce_m381), (2, 2, [(4, 9, 1)], [0, 12, 2, 9, 5, 7, 14, 11], [0, 9, 0, 14, 4, 7, 12, 10, 18, 0, 21], ce_m381), (1, 2, [], [0, 12, 2, 9, 5, 7, 14, 11], [0, 0, 0, 14, 4, 7, 12, 10, 18, 9, 21], ce_m381)]) (by decide +kernel) ce_p438 (ce_pc ce_p381 (ce_pc ce_p381 (ce_pc ce_p381 ce_pn)))
def ce_m694 : Nat → Nat → Int := ce_F 8 11 0x24a002201241001050012081000480448040008248080248000048040200000049
theorem ce_p694 : rk_M 2 ce_m694 := ce_st (b1 := 2) (T := ce_m444) (rem := []) (rows := [0, 4, 2, 10, 9, 7, 14, 13]) (cols := [12, 17, 19, 2, 6, 4, 8, 10, 15, 23, 20]) (L := [(0, 2, [(3, 4, 1), (5, 6, 1), (5, 7, 2)], [0, 9, 7, 4, 0, 2, 11, 12], [0, 8, 22, 13, 6, 3, 0, 0, 20, 18, 17], ce_m173), (1, 2, [(3, 4, 1), (4, 10, 2)], [0, 9, 7, 4, 0, 2, 11, 12], [0, 0, 17, 13, 6, 3, 9, 23, 20, 18], ce_m173), (2, 2, [(3, 4, 1)], [0, 9, 7, 4, 0, 2, 11, 12], [0, 0, 0, 13, 6, 3, 9, 23, 20, 18, 17], ce_m173)]) (by decide +kernel) ce_p444 (ce_pc ce_p173 (ce_pc ce_p173 (ce_pc ce_p173 ce_pn)))
def ce_m695 : Nat → Nat → Int := ce_F 8 11 0x248048009250000242448008000209041080281000010480200200240200000049
theorem ce_p695 : rk_M 2 ce_m695 := ce_st (b1 := 2) (T := ce_m451) (rem := []) (rows := [0, 5, 7, 3, 8, 11, 14, 12]) (cols := [15, 19, 20, 3, 7, 4, 9, 10, 17, 12, 22]) (L := [(1, 2, [(3, 4, 2), (4, 4, 0), (4, 7, 2)], [0, 5, 11, 3, 0, 7, 12, 8], [11, 0, 21, 5, 0, 8, 3, 0, 15, 12, 22], ce_m173), (2, 2, [(3, 4, 2), (4, 8, 0)], [0, 5, 11, 3, 0, 7, 12, 8], [15, 0, 0, 5, 11, 8, 3, 21, 0, 12, 22], ce_m173), (0, 2, [(3, 4, 2)], [0, 5, 11, 3, 0, 7, 12, 8], [0, 0, 0, 5, 11, 8, 3, 21, 15, 12, 22], ce_m173)]) (by decide +kernel) ce_p451 (ce_pc ce_p173 (ce_pc ce_p173 (ce_pc ce_p173 ce_pn)))
def ce_m696 : Nat → Nat → Int := ce_F 8 11 0x240088048290440002210088048001201001241008009000240002081000001041
theorem ce_p696 : rk_M 2 ce_m696 := ce_st (b1 := 2) (T := ce_m512) (rem := [(1, 2, 5)]) (rows := [0, 2, 6, 9, 11, 4, 12, 14]) (cols := [17, 4, 0, 3, 19, 7, 9, 13, 10, 15, 21]) (L := [(2, 2, [(4, 9, 4)], [0, 5, 12, 8, 14, 10, 3, 7], [21, 9, 0, 14, 13, 2, 18, 6, 4, 0, 17], ce_m511), (4, 2, [(4, 7, 0)], [0, 13, 10, 8, 2, 5, 14, 6], [16, 14, 0, 10, 0, 19, 6, 0, 21, 8, 4], ce_m355), (0, 2, [], [0, 13, 10, 8, 2, 5, 14, 6], [0, 14, 0, 10, 0, 19, 6, 16, 21, 8, 4], ce_m355)]) (by decide +kernel) ce_p512 (ce_pc ce_p511 (ce_pc ce_p355 (ce_pc ce_p355 ce_pn)))
def ce_m697 : Nat → Nat → Int := ce_F 8 11 0x49400049411001000009208241000049090081000002480200040240200000049
theorem ce_p697 : rk_M 2 ce_m697 := ce_st (b1 := 2) (T := ce_m458) (rem := []) (rows := [0, 2, 7, 4, 10, 8, 13, 14]) (cols := [8, 19, 22, 2, 4, 7, 10, 12, 15, 17, 20]) (L := [(1, 2, [(3, 5, 2), (4, 4, 0), (4, 6, 2)], [0, 9, 13, 6, 4, 0, 2, 11], [23, 0, 8, 10, 0, 21, 0, 7, 14, 3, 4], ce_m156), (2, 2, [(3, 5, 2), (4, 7, 0)], [0, 9, 13, 6, 4, 0, 2, 11], [7, 0, 0, 10, 23, 21, 8, 0, 14, 3, 4], ce_m156), (0, 2, [(3, 5, 2)], [0, 9, 13, 6, 4, 0, 2, 11], [0, 0, 0, 10, 23, 21, 8, 7, 14, 3, 4], ce_m156)]) (by decide +kernel) ce_p458 (ce_pc ce_p156 (ce_pc ce_p156 (ce_pc ce_p156 ce_pn)))
def ce_m698 : Nat → Nat → Int := ce_F 8 11 0x241400208242011012002201009008041001488000001208040040240200000049
theorem ce_p698 : rk_M 2 ce_m698 := ce_st (b1 := 2) (T := ce_m517) (rem := [(1, 1, 5)]) (rows := [0, 6, 9, 2, 11, 4, 13, 14]) (cols := [10, 0, 21, 6, 2, 5, 9, 12, 19, 15, 17]) (L := [(1, 2, [(4, 9, 2)], [0, 13, 9, 4, 10, 14, 2, 6], [20, 0, 12, 7, 10, 15, 3, 8, 4, 0, 16], ce_m511), (2, 2, [(4, 3, 0)], [0, 10, 13, 8, 3, 4, 7, 15], [14, 0, 0, 0, 6, 11, 18, 16, 5, 9, 21], ce_m355), (0, 2, [], [0, 10, 13, 8, 3, 4, 7, 15], [0, 0, 0, 14, 6, 11, 18, 16, 5, 9, 21], ce_m355)]) (by decide +kernel) ce_p517 (ce_pc ce_p511 (ce_pc ce_p355 (ce_pc ce_p355 ce_pn)))
def ce_m699 : Nat → Nat → Int := ce_F 8 11 0x40a40100120028800904800100900020800204120001020808000820900004100a
theorem ce_p699 : rk_M 2 ce_m699 := ce_st (b1 := 2) (T := ce_m527) (rem := [(1, 0, 2)]) (rows := [0, 9, 3, 5, 7, 14, 11, 13]) (cols := [0, 11, 9, 3, 14, 5, 18, 6, 13, 17, 21]) (L := [(0, 2, [], [0, 4, 14, 2, 6, 12, 10, 8], [0, 6, 2, 4, 18, 16, 14, 13, 8, 10, 21], ce_m510), (4, 2, [(0, 1, 2), (1, 2, 3), (4, 9, 1), (4, 10, 6), (2, 3, 2)], [0, 0, 11, 0, 8, 2, 4, 7], [0, 2, 0, 20, 0, 14, 4, 6, 17], ce_m52), (1, 2, [(0, 1, 2), (1, 2, 3), (5, 8, 6), (2, 3, 2)], [0, 0, 11, 0, 8, 2, 4, 7], [0, 0, 0, 20, 0, 14, 16, 6, 0, 2, 4], ce_m52), (6, 2, [(0, 1, 2), (1, 2, 3), (2, 3, 2)], [0, 0, 11, 0, 8, 2, 4, 7], [0, 0, 0, 20, 0, 14, 0, 6, 17, 2, 4], ce_m52)]) (by decide +kernel) ce_p527 (ce_pc ce_p510 (ce_pc ce_p52 (ce_pc ce_p52 (ce_pc ce_p52 ce_pn))))
def ce_m700 : Nat → Nat → Int := ce_F 8 11 0x480488001210009010442001000242408208240008009000240002009000001201
theorem ce_p700 : rk_M 2 ce_m700 := ce_st (b1 := 2) (T := ce_m399) (rem := []) (rows := [0, 4, 2, 12, 8, 6, 10, 15]) (cols := [4, 2, 6, 19, 23, 13, 10, 8, 17, 24, 21]) (L := [(0, 2, [(2, 4, 2), (5, 6, 4)], [0, 4, 11, 12, 0, 9, 2, 7], [0, 10, 4, 16, 21, 15, 0, 9, 22, 2, 12], ce_m173), (3, 2, [(2, 4, 2), (5, 9, 4)], [0, 5, 10, 13, 0, 8, 3, 6], [0, 11, 5, 0, 2, 14, 21, 8, 23, 0, 13], ce_m173), (4, 2, [(2, 4, 2)], [0, 5, 10, 13, 0, 8, 3, 6], [0, 11, 5, 0, 0, 14, 21, 8, 23, 3, 13], ce_m173)]) (by decide +kernel) ce_p399 (ce_pc ce_p173 (ce_pc ce_p173 (ce_pc ce_p173 ce_pn)))
def ce_m701 : Nat → Nat → Int := ce_F 8 11 0x212048000009410209000281048008041049000048009000240000211000008201
theorem ce_p701 : rk_M 2 ce_m701 := ce_st (b1 := 2) (T := ce_m390) (rem := []) (rows := [0, 4, 2, 12, 9, 14, 6, 11]) (cols := [10, 2, 7, 21, 12, 17, 4, 8, 22, 24, 18]) (L := [(3, 2, [(2, 6, 2), (1, 6, 2), (4, 10, 5)], [0, 4, 2, 10, 13, 6, 0, 9], [8, 2, 17, 0, 10, 12, 0, 6, 18, 20], ce_m223), (0, 2, [(2, 6, 2), (1, 6, 2), (5, 7, 5)], [0, 8, 6, 2, 10, 12, 0, 5], [0, 6, 13, 0, 17, 5, 0, 0, 2, 8, 19], ce_m180), (5, 2, [(2, 6, 2), (1, 6, 2)], [0, 8, 6, 2, 10, 12, 0, 5], [0, 6, 13, 0, 17, 0, 0, 4, 2, 8, 19], ce_m180)]) (by decide +kernel) ce_p390 (ce_pc ce_p223 (ce_pc ce_p180 (ce_pc ce_p180 ce_pn)))
def ce_m702 : Nat → Nat → Int := ce_F 8 11 0x491200040052401010408400001410200081008041200200040008041200000049
theorem ce_p702 : rk_M 2 ce_m702 := ce_st (b1 := 2) (T := ce_m529) (rem := [(1, 2, 6)]) (rows := [0, 2, 6, 11, 4, 8, 12, 14]) (cols := [4, 16, 0, 2, 7, 9, 10, 15, 12, 20, 18]) (L := [(2, 2, [], [0, 3, 11, 6, 5, 9, 12, 14], [3, 19, 0, 7, 4, 8, 15, 16, 21, 11, 12], ce_m515), (0, 2, [(5, 9, 1)], [0, 14, 4, 8, 7, 12, 3, 10], [0, 7, 0, 19, 20, 2, 14, 4, 9, 0, 12], ce_m362), (1, 2, [], [0, 14, 4, 8, 7, 12, 3, 10], [0, 0, 0, 19, 20, 2, 14, 4, 9, 6, 12], ce_m362)]) (by decide +kernel) ce_p529 (ce_pc ce_p515 (ce_pc ce_p362 (ce_pc ce_p362 ce_pn)))
def ce_m703 : Nat → Nat → Int := ce_F 8 11 0x49120020200020120920004000024024004045000020220004028020100140000a
theorem ce_p703 : rk_M 2 ce_m703 := ce_st (b1 := 2) (T := ce_m538) (rem := [(1, 0, 2)]) (rows := [0, 12, 3, 5, 8, 11, 7, 14]) (cols := [0, 11, 17, 12, 8, 5, 2, 18, 21, 7, 14]) (L := [(0, 2, [], [0, 2, 12, 5, 6, 8, 10, 14], [0, 2, 10, 4, 6, 9, 16, 19, 14, 21, 12], ce_m515), (1, 2, [(0, 1, 4), (1, 4, 3), (4, 7, 2), (4, 10, 8), (2, 3, 2)], [0, 0, 5, 0, 6, 9, 10, 2], [0, 0, 6, 18, 0, 17, 4, 0, 9, 3], ce_m67), (7, 2, [(0, 1, 4), (1, 4, 3), (4, 8, 3), (2, 3, 2)], [0, 0, 5, 0, 6, 9, 10, 2], [0, 0, 6, 18, 0, 17, 4, 0, 0, 3, 9], ce_m67), (8, 2, [(0, 1, 4), (1, 4, 3), (2, 3, 2)], [0, 0, 5, 0, 6, 9, 10, 2], [0, 0, 6, 18, 0, 17, 4, 0, 0, 3, 9], ce_m67)]) (by decide +kernel) ce_p538 (ce_pc ce_p515 (ce_pc ce_p67 (ce_pc ce_p67 (ce_pc ce_p67 ce_pn))))
def ce_m704 : Nat → Nat → Int := ce_F 8 11 0x201090200292000208048008208408200008011202012000200009200200000049
theorem ce_p704 : rk_M 2 ce_m704 := ce_st (b1 := 2) (T := ce_m486) (rem := []) (rows := [0, 7, 9, 5, 3, 14, 13, 10]) (cols := [17, 19, 21, 3, 6, 5, 9, 10, 15, 13, 22]) (L := [(0, 2, [(3, 5, 2), (5, 4, 2), (5, 6, 1)], [0, 13, 2, 8, 6, 0, 10, 5], [0, 8, 17, 10, 0, 14, 0, 5, 20, 18, 3], ce_m155), (1, 2, [(3, 5, 2)], [0, 10, 12, 3, 5, 0, 6, 9], [0, 0, 13, 5, 8, 11, 21, 14, 3, 7, 23], ce_m173), (2, 2, [(3, 5, 2)], [0, 13, 2, 8, 6, 0, 10, 5], [0, 0, 0, 10, 16, 14, 9, 5, 20, 18, 3], ce_m155)]) (by decide +kernel) ce_p486 (ce_pc ce_p155 (ce_pc ce_p173 (ce_pc ce_p155 ce_pn)))
def ce_m705 : Nat → Nat → Int := ce_F 8 11 0x248040241209000240291000041001008041001041001011001001400200000081
theorem ce_p705 : rk_M 2 ce_m705 := ce_st (b1 := 2) (T := ce_m397) (rem := []) (rows := [0, 9, 7, 2, 4, 11, 12, 14]) (cols := [22, 4, 24, 2, 6, 18, 20, 8, 10, 12, 14]) (L := [(0, 2, [], [0, 7, 2, 5, 8, 11, 12, 15], [0, 21, 18, 7, 4, 11, 2, 9, 12, 17, 14], ce_m515), (2, 2, [], [0, 9, 7, 2, 4, 11, 12, 14], [0, 4, 0, 2, 6, 18, 20, 8, 10, 12, 14], ce_m397)]) (by decide +kernel) ce_p397 (ce_pc ce_p515 (ce_pc ce_p397 ce_pn))
def ce_m706 : Nat → Nat → Int := ce_F 8 11 0x28044020000a24100248004104100804104820000800a001400001201000000241
theorem ce_p706 : rk_M 2 ce_m706 := ce_st (b1 := 2) (T := ce_m404) (rem := [(1, 3, 5)]) (rows := [0, 7, 12, 4, 8, 3, 14, 11]) (cols := [8, 7, 22, 0, 17, 10, 12, 18, 2, 4, 20]) (L := [(3, 2, [(4, 8, 0)], [0, 2, 9, 5, 6, 10, 12, 14], [10, 8, 16, 0, 18, 12, 15, 25, 0, 23, 20], ce_m354), (0, 2, [(5, 6, 2)], [0, 10, 3, 4, 13, 6, 9, 15], [0, 6, 11, 0, 15, 31, 0, 5, 22, 24, 21], ce_m346), (2, 2, [], [0, 10, 3, 4, 13, 6, 9, 15], [0, 6, 0, 0, 15, 31, 10, 5, 22, 24, 21], ce_m346)]) (by decide +kernel) ce_p404 (ce_pc ce_p354 (ce_pc ce_p346 (ce_pc ce_p346 ce_pn)))
def ce_m707 : Nat → Nat → Int := ce_F 8 11 0x492001002402009002082200082008001009400201201000200000209200000248
theorem ce_p707 : rk_M 2 ce_m707 := ce_st (b1 := 2) (T := ce_m405) (rem := []) (rows := [0, 9, 7, 2, 5, 10, 14, 13]) (cols := [9, 13, 14, 25, 21, 11, 5, 16, 2, 18, 6]) (L := [(1, 2, [(3, 6, 2), (5, 6, 2)], [0, 13, 3, 4, 6, 8, 0, 10], [20, 0, 4, 8, 22, 10, 0, 12, 14, 7, 3], ce_m156), (3, 2, [(3, 6, 2)], [0, 13, 4, 3, 6, 8, 0, 10], [20, 0, 9, 0, 22, 10, 4, 7, 3, 12, 14], ce_m156), (2, 2, [(3, 6, 2)], [0, 13, 3, 4, 6, 8, 0, 10], [20, 0, 0, 0, 22, 10, 5, 12, 14, 7, 3], ce_m156)]) (by decide +kernel) ce_p405 (ce_pc ce_p156 (ce_pc ce_p156 (ce_pc ce_p156 ce_pn)))
def ce_m708 : Nat → Nat → Int := ce_F 8 11 0x240009208048401208480200001080240041200008009000240000209000008201
theorem ce_p708 : rk_M 2 ce_m708 := ce_st (b1 := 2) (T := ce_m536) (rem := [(1, 5, 6)]) (rows := [0, 2, 6, 12, 8, 10, 4, 14]) (cols := [14, 2, 4, 16, 6, 0, 10, 12, 8, 20, 18]) (L := [(5, 2, [], [0, 6, 2, 8, 5, 11, 12, 15], [16, 4, 7, 19, 14, 0, 2, 10, 13, 20, 23], ce_m452), (3, 2, [(4, 6, 0)], [0, 2, 13, 15, 4, 8, 10, 6], [15, 12, 2, 0, 4, 0, 0, 22, 8, 18, 16], ce_m360), (0, 2, [], [0, 2, 13, 15, 4, 8, 10, 6], [0, 12, 2, 0, 4, 0, 15, 22, 8, 18, 16], ce_m360)]) (by decide +kernel) ce_p536 (ce_pc ce_p452 (ce_pc ce_p360 (ce_pc ce_p360 ce_pn)))
def ce_m709 : Nat → Nat → Int := ce_F 8 11 0x4924000a088048008208008212001008000042440009040000000048200008009
theorem ce_p709 : rk_M 2 ce_m709 := ce_st (b1 := 2) (T := ce_m493) (rem := []) (rows := [0, 2, 4, 7, 8, 12, 10, 14]) (cols := [8, 15, 4, 2, 6, 19, 12, 10, 17, 21, 23]) (L := [(1, 2, [(3, 3, 1), (4, 9, 5)], [0, 5, 11, 0, 9, 6, 3, 12], [15, 0, 7, 5, 9, 22, 20, 17, 12, 0, 2], ce_m173), (5, 2, [(3, 3, 1), (4, 2, 0)], [0, 4, 10, 0, 8, 7, 2, 13], [6, 0, 0, 4, 8, 0, 21, 16, 13, 23, 3], ce_m173), (0, 2, [(3, 3, 1)], [0, 4, 10, 0, 8, 7, 2, 13], [0, 0, 6, 4, 8, 0, 21, 16, 13, 23, 3], ce_m173)]) (by decide +kernel) ce_p493 (ce_pc ce_p173 (ce_pc ce_p173 (ce_pc ce_p173 ce_pn)))
def ce_m710 : Nat → Nat → Int := ce_F 8 11 0x251000002040240002208040008209000201201001001001201001001200002281
theorem ce_p710 : rk_M 2 ce_m710 := ce_st (b1 := 2) (T := ce_m549) (rem := [(1, 0, 1), (1, 2, 2)]) (rows := [0, 4, 2, 6, 8, 10, 12, 14]) (cols := [0, 4, 0, 12, 14, 6, 2, 16, 18, 10, 8]) (L := [(0, 2, [(4, 2, 1), (4, 5, 4)], [0, 6, 15, 13, 2, 5, 8, 10], [0, 18, 0, 7, 4, 0, 15, 12, 9, 2, 22], ce_m360), (2, 2, [(4, 6, 3)], [0, 15, 6, 2, 13, 8, 5, 10], [0, 18, 0, 4, 7, 15, 0, 12, 9, 22, 2], ce_m360), (3, 2, [], [0, 4, 2, 8, 10, 15, 13, 6], [0, 4, 0, 0, 20, 14, 12, 6, 23, 8, 2], ce_m438), (4, 2, [], [0, 15, 6, 2, 13, 8, 5, 10], [0, 18, 0, 0, 0, 15, 4, 12, 9, 22, 2], ce_m360)]) (by decide +kernel) ce_p549 (ce_pc ce_p360 (ce_pc ce_p360 (ce_pc ce_p438 (ce_pc ce_p360 ce_pn))))
def ce_m711 : Nat → Nat → Int := ce_F 8 11 0x249000200412040010408000202410200480040040000088280000208200000248
theorem ce_p711 : rk_M 2 ce_m711 := ce_st (b1 := 2) (T := ce_m425) (rem := []) (rows := [0, 7, 10, 9, 12, 3, 4, 14]) (cols := [3, 12, 23, 24, 6, 15, 5, 21, 18, 11, 8]) (L := [(1, 2, [(3, 2, 1), (5, 5, 3)], [0, 12, 0, 3, 4, 7, 9, 10], [21, 0, 8, 4, 23, 0, 11, 13, 15, 6, 2], ce_m156), (2, 2, [(3, 2, 1)], [0, 12, 0, 4, 3, 7, 9, 10], [21, 0, 0, 9, 23, 4, 11, 6, 2, 13, 15], ce_m156), (3, 2, [(3, 2, 1)], [0, 13, 0, 2, 5, 6, 8, 11], [20, 0, 0, 0, 22, 4, 10, 12, 14, 7, 3], ce_m156)]) (by decide +kernel) ce_p425 (ce_pc ce_p156 (ce_pc ce_p156 (ce_pc ce_p156 ce_pn)))
def ce_m712 : Nat → Nat → Int := ce_F 8 11 0x11010008401040210001001212010200402401001009001001201008000000240
theorem ce_p712 : rk_M 2 ce_m712 := ce_st (b1 := 2) (T := ce_m428) (rem := []) (rows := [0, 6, 13, 8, 11, 2, 4, 14]) (cols := [4, 6, 16, 18, 14, 2, 10, 20, 23, 13, 9]) (L := [(2, 1, [(3, 3, 2), (3, 4, 1)], [0, 2, 4, 0, 0, 6, 9, 11], [16, 18, 0, 7, 21, 4, 12, 10, 8, 2, 14], ce_m49), (3, 1, [(3, 3, 2), (3, 4, 1)], [0, 4, 11, 0, 0, 2, 6, 8], [2, 4, 0, 0, 18, 6, 16, 20, 12, 14, 9], ce_m49)]) (by decide +kernel) ce_p428 (ce_pc ce_p49 (ce_pc ce_p49 ce_pn))
def ce_m713 : Nat → Nat → Int := ce_F 8 11 0x248080002402008000408408009400008402040041008040040000049200000009
theorem ce_p713 : rk_M 2 ce_m713 := ce_st (b1 := 2) (T := ce_m369) (rem := []) (rows := [0, 2, 12, 8, 14, 10, 6, 5]) (cols := [6, 10, 4, 2, 23, 8, 19, 27, 15, 13, 17]) (L := [(0, 2, [(5, 7, 1)], [0, 11, 4, 7, 3, 8, 12, 15], [0, 3, 14, 19, 10, 27, 16, 0, 5, 9, 22], ce_m363), (1, 2, [], [0, 11, 4, 7, 3, 8, 12, 15], [0, 0, 14, 19, 10, 27, 16, 2, 5, 9, 22], ce_m363)]) (by decide +kernel) ce_p369 (ce_pc ce_p363 (ce_pc ce_p363 ce_pn))
def ce_m714 : Nat → Nat → Int := ce_F 8 11 0x940800104020801204000801004800800000a441200008040000048200000009
theorem ce_p714 : rk_M 2 ce_m714 := ce_st (b1 := 2) (T := ce_m434) (rem := []) (rows := [0, 2, 4, 13, 11, 6, 14, 8]) (cols := [2, 21, 4, 6, 17, 23, 11, 8, 18, 12, 14]) (L := [(0, 2, [], [0, 2, 10, 7, 9, 4, 12, 14], [0, 5, 2, 8, 19, 21, 23, 10, 24, 7, 13], ce_m362), (1, 2, [], [0, 2, 10, 7, 13, 4, 8, 14], [0, 0, 2, 4, 19, 20, 25, 10, 22, 13, 7], ce_m362)]) (by decide +kernel) ce_p434 (ce_pc ce_p362 (ce_pc ce_p362 ce_pn))
def ce_m715 : Nat → Nat → Int := ce_F 8 11 0x242000040480440010210000200202202000481040001201000000208200000240
theorem ce_p715 : rk_M 2 ce_m715 := ce_st (b1 := 2) (T := ce_m503) (rem := []) (rows := [0, 5, 3, 6, 8, 10, 13, 14]) (cols := [13, 16, 7, 14, 9, 11, 3, 18, 4, 22, 21]) (L := [(2, 2, [], [0, 5, 3, 6, 8, 10, 12, 14], [13, 4, 0, 6, 11, 9, 3, 14, 16, 18, 20], ce_m544), (3, 2, [], [0, 2, 4, 9, 7, 10, 13, 14], [2, 19, 0, 0, 10, 8, 12, 17, 4, 22, 21], ce_m503)]) (by decide +kernel) ce_p503 (ce_pc ce_p544 (ce_pc ce_p503 ce_pn))
def ce_m716 : Nat → Nat → Int := ce_F 8 10 0x41100808a00a20041044020a080009441041008208041001209000001049
theorem ce_p716 : rk_M 2 ce_m716 := ce_st (b1 := 2) (T := ce_m509) (rem := []) (rows := [0, 2, 4, 6, 15, 13, 8, 10]) (cols := [19, 7, 4, 8, 17, 2, 10, 12, 14, 20]) (L := [(1, 2, [(3, 4, 3), (3, 5, 2), (4, 7, 0), (4, 8, 4)], [0, 10, 2, 9, 0, 0, 6, 5], [4, 0, 12, 15, 9, 2, 11, 0, 0, 6], ce_m140), (0, 2, [(3, 4, 3), (3, 5, 2), (4, 6, 2), (5, 9, 4)], [0, 2, 8, 10, 0, 0, 4, 6], [0, 0, 6, 4, 21, 2, 0, 17, 15], ce_m52), (2, 2, [(3, 4, 3), (3, 5, 2), (5, 5, 4)], [0, 2, 8, 10, 0, 0, 4, 6], [0, 0, 0, 4, 3, 0, 6, 17, 15, 20], ce_m52), (4, 2, [(3, 4, 3), (3, 5, 2)], [0, 2, 8, 10, 0, 0, 4, 6], [0, 0, 0, 4, 0, 2, 6, 17, 15, 20], ce_m52)]) (by decide +kernel) ce_p509 (ce_pc ce_p140 (ce_pc ce_p52 (ce_pc ce_p52 (ce_pc ce_p52 ce_pn))))
def ce_m717 : Nat → Nat → Int := ce_F 8 10 0x249001209208009441488002481000410408008001048040008240088081
theorem ce_p717 : rk_M 2 ce_m717 := ce_st (b1 := 2) (T := ce_m508) (rem := []) (rows := [0, 2, 4, 6, 8, 10, 12, 14]) (cols := [14, 4, 16, 2, 6, 20, 18, 8, 10, 12]) (L := [(0, 2, [(2, 7, 6), (4, 2, 1), (5, 5, 3), (4, 8, 6)], [0, 2, 8, 12, 7, 4, 10], [0, 6, 0, 4, 11, 0, 2, 20, 0, 15], ce_m223), (2, 2, [(2, 7, 6), (5, 6, 4), (4, 9, 5)], [0, 2, 8, 12, 7, 4, 10], [0, 6, 0, 4, 11, 15, 0, 20, 2], ce_m223), (5, 2, [(2, 7, 6), (4, 7, 6)], [0, 2, 8, 12, 7, 4, 10], [0, 6, 0, 4, 11, 0, 20, 0, 2, 15], ce_m223), (6, 2, [(2, 7, 6)], [0, 2, 8, 12, 7, 4, 10], [0, 6, 0, 4, 11, 0, 0, 20, 2, 15], ce_m223)]) (by decide +kernel) ce_p508 (ce_pc ce_p223 (ce_pc ce_p223 (ce_pc ce_p223 (ce_pc ce_p223 ce_pn))))
def ce_m718 : Nat → Nat → Int := ce_F 8 10 0x48204101240020120821100804a001249000202008041008041200040209
theorem ce_p718 : rk_M 2 ce_m718 := ce_st (b1 := 2) (T := ce_m511) (rem := []) (rows := [0, 2, 4, 10, 13, 6, 14, 8]) (cols := [10, 4, 2, 17, 6, 8, 19, 12, 15, 20]) (L := [(1, 2, [(3, 6, 3), (5, 6, 4), (5, 7, 3)], [0, 2, 8, 10, 13, 4, 0, 6], [13, 0, 6, 5, 2, 8, 0, 0, 11, 14], ce_m344), (3, 2, [(3, 6, 3), (4, 5, 0), (4, 9, 6)], [0, 2, 6, 12, 9, 4, 0, 10], [10, 0, 2, 0, 6, 0, 14, 4, 21], ce_m223), (0, 2, [(3, 6, 3), (4, 8, 6)], [0, 2, 6, 12, 9, 4, 0, 10], [0, 0, 2, 0, 6, 10, 21, 4, 0, 14], ce_m223), (6, 2, [(3, 6, 3)], [0, 2, 6, 12, 9, 4, 0, 10], [0, 0, 2, 0, 6, 10, 0, 4, 21, 14], ce_m223)]) (by decide +kernel) ce_p511 (ce_pc ce_p344 (ce_pc ce_p223 (ce_pc ce_p223 (ce_pc ce_p223 ce_pn))))
def ce_m719 : Nat → Nat → Int := ce_F 8 10 0x240091200240209248400000480440001280201000049000048040000049
theorem ce_p719 : rk_M 2 ce_m719 := ce_st (b1 := 2) (T := ce_m532) (rem := []) (rows := [0, 3, 5, 8, 6, 11, 13, 14]) (cols := [3, 15, 17, 5, 7, 8, 11, 13, 19, 21]) (L := [(0, 2, [(0, 2, 8), (3, 6, 4), (5, 3, 2), (5, 4, 1), (4, 9, 8)], [0, 11, 0, 2, 7, 5, 0, 8], [0, 8, 17, 0, 0, 2, 4, 11, 13], ce_m51), (2, 2, [(0, 2, 8), (3, 6, 4), (4, 6, 1), (4, 9, 8)], [0, 11, 0, 2, 7, 5, 0, 8], [0, 4, 0, 16, 9, 2, 0, 11, 13], ce_m51), (1, 2, [(0, 2, 8), (3, 6, 4), (4, 9, 8)], [0, 11, 0, 2, 7, 5, 0, 8], [0, 0, 0, 16, 9, 2, 4, 11, 13], ce_m51)]) (by decide +kernel) ce_p532 (ce_pc ce_p51 (ce_pc ce_p51 (ce_pc ce_p51 ce_pn)))
def ce_m720 : Nat → Nat → Int := ce_F 8 10 0x248001000048048011080082009400400008240042002000250000000209
theorem ce_p720 : rk_M 2 ce_m720 := ce_st (b1 := 2) (T := ce_m544) (rem := []) (rows := [0, 3, 4, 10, 7, 8, 13, 14]) (cols := [13, 16, 18, 2, 7, 9, 10, 15, 4, 20]) (L := [(1, 2, [(0, 3, 9), (5, 5, 3), (5, 6, 0), (1, 9, 7)], [0, 4, 3, 0, 6, 11, 13, 9], [8, 0, 23, 15, 4, 0, 0, 21, 11], ce_m155), (0, 2, [(0, 3, 9), (5, 4, 3), (1, 9, 7)], [0, 4, 3, 0, 6, 11, 13, 9], [0, 0, 23, 5, 0, 14, 9, 21, 11], ce_m155), (3, 2, [(0, 3, 9), (1, 9, 7)], [0, 4, 3, 0, 6, 11, 13, 9], [0, 0, 23, 0, 4, 14, 9, 21, 11], ce_m155)]) (by decide +kernel) ce_p544 (ce_pc ce_p155 (ce_pc ce_p155 (ce_pc ce_p155 ce_pn)))
def ce_m721 : Nat → Nat → Int := ce_F 8 9 0x40944020028a24900804824104121001100900804000a200008009
theorem ce_p721 : rk_M 2 ce_m721 := ce_st (b1 := 2) (T := ce_m505) (rem := []) (rows := [0, 5, 6, 2, 9, 14, 10, 12]) (cols := [18, 8, 3, 4, 17, 20, 6, 14, 11]) (L := [(5, 2, [(3, 6, 1), (4, 7, 0), (4, 8, 1)], [0, 2, 9, 13, 4, 6, 0, 11], [10, 20, 4, 7, 2, 0, 14], ce_m223), (1, 2, [(3, 6, 1), (4, 6, 0)], [0, 2, 9, 13, 4, 6, 0, 11], [14, 0, 4, 7, 2, 0, 0, 10, 20], ce_m223), (0, 2, [(3, 6, 1)], [0, 2, 9, 13, 4, 6, 0, 11], [0, 0, 4, 7, 2, 0, 14, 10, 20], ce_m223)]) (by decide +kernel) ce_p505 (ce_pc ce_p223 (ce_pc ce_p223 (ce_pc ce_p223 ce_pn)))
def ce_m722 : Nat → Nat → Int := ce_F 9 16 0x200241040008009200208008041048001008210040440040441002001200088210008001000210040200001002008040000040401001
theorem ce_p722 : rk_M 2 ce_m722 := ce_st (b1 := 2) (T := ce_m553) (rem := [(1, 0, 3)]) (rows := [0, 4, 2, 6, 14, 16, 11, 8, 12]) (cols := [0, 27, 10, 8, 25, 4, 12, 22, 15, 3, 29, 6, 17, 18, 21, 30]) (L := [(0, 2, [(4, 13, 7), (4, 14, 4)], [0, 2, 4, 16, 6, 8, 12, 10, 15], [0, 24, 2, 4, 20, 10, 12, 23, 9, 15, 26, 16, 6, 0, 0, 18], ce_m596), (4, 2, [(4, 15, 10)], [0, 2, 4, 10, 16, 6, 12, 14, 8], [0, 22, 2, 16, 0, 10, 4, 27, 13, 7, 20, 8, 14, 19, 25], ce_m597), (7, 2, [(4, 10, 1)], [0, 4, 2, 6, 14, 16, 11, 8, 12], [0, 27, 10, 8, 0, 4, 12, 0, 15, 3, 0, 6, 17, 18, 21, 30], ce_m553), (10, 2, [], [0, 4, 2, 6, 14, 16, 11, 8, 12], [0, 27, 10, 8, 0, 4, 12, 0, 15, 3, 0, 6, 17, 18, 21, 30], ce_m553)]) (by decide +kernel) ce_p553 (ce_pc ce_p596 (ce_pc ce_p597 (ce_pc ce_p553 (ce_pc ce_p553 ce_pn))))
def ce_m723 : Nat → Nat → Int := ce_F 9 16 0x44840001004021208008000804200801004800900124000100024804000001000200a000000000481200001000008201000000000049
theorem ce_p723 : rk_M 2 ce_m723 := ce_st (b1 := 2) (T := ce_m558) (rem := [(4, 14, 2)]) (rows := [0, 5, 3, 7, 8, 14, 10, 17, 12]) (cols := [21, 28, 26, 3, 6, 5, 8, 18, 22, 10, 24, 13, 15, 16, 0, 31]) (L := [(0, 2, [(5, 12, 1)], [0, 5, 3, 6, 8, 14, 12, 11, 16], [0, 14, 16, 3, 5, 9, 6, 20, 23, 12, 10, 24, 0, 19, 28, 27], ce_m575), (1, 2, [(5, 15, 2)], [0, 6, 3, 4, 8, 14, 13, 17, 11], [0, 0, 29, 6, 3, 4, 8, 18, 21, 13, 24, 10, 16, 15, 27], ce_m558), (2, 2, [], [0, 6, 3, 4, 8, 14, 13, 17, 11], [0, 0, 0, 6, 3, 4, 8, 18, 21, 13, 24, 10, 16, 15, 27, 28], ce_m558)]) (by decide +kernel) ce_p558 (ce_pc ce_p575 (ce_pc ce_p558 (ce_pc ce_p558 ce_pn)))
def ce_m724 : Nat → Nat → Int := ce_F 9 16 0x25101000020008044200204000004a280000200011010008008008201000001000048040000201000408040000001201000040000049
theorem ce_p724 : rk_M 2 ce_m724 := ce_st (b1 := 2) (T := ce_m560) (rem := [(1, 0, 1)]) (rows := [0, 3, 6, 8, 5, 13, 10, 14, 17]) (cols := [0, 10, 24, 7, 3, 12, 15, 9, 17, 18, 28, 21, 27, 22, 5, 31]) (L := [(0, 2, [], [0, 16, 7, 3, 4, 10, 8, 14, 13], [0, 13, 21, 24, 22, 5, 3, 6, 11, 8, 28, 19, 15, 16, 31, 26], ce_m556), (1, 2, [(5, 10, 8)], [0, 2, 7, 11, 4, 14, 8, 13, 16], [0, 0, 15, 4, 2, 21, 11, 8, 12, 16, 0, 18, 25, 22, 6, 26], ce_m624), (2, 2, [(5, 10, 6)], [0, 17, 6, 2, 5, 11, 9, 15, 12], [0, 0, 0, 25, 23, 4, 2, 7, 10, 9, 0, 18, 14, 17, 30, 27], ce_m556), (10, 2, [], [0, 17, 6, 2, 5, 11, 9, 15, 12], [0, 0, 0, 25, 23, 4, 2, 7, 10, 9, 0, 18, 14, 17, 30, 27], ce_m556)]) (by decide +kernel) ce_p560 (ce_pc ce_p556 (ce_pc ce_p624 (ce_pc ce_p556 (ce_pc ce_p556 ce_pn))))
def ce_m725 : Nat → Nat → Int := ce_F 9 16 0x24804800000020120120000001100004200008020000900000004044000200000a008001000048000240000001200048000000048408
theorem ce_p725 : rk_M 2 ce_m725 := ce_st (b1 := 2) (T := ce_m582) (rem := [(1, 1, 1), (1, 3, 2)]) (rows := [0, 2, 4, 7, 8, 11, 12, 14, 16]) (cols := [5, 0, 6, 0, 19, 15, 16, 10, 2, 12, 8, 24, 20, 26, 22, 28]) (L := [(1, 2, [(4, 3, 2)], [0, 14, 2, 4, 6, 11, 9, 16, 12], [8, 0, 4, 0, 10, 15, 13, 24, 26, 2, 6, 23, 21, 16, 18, 28], ce_m581), (3, 2, [], [0, 2, 14, 5, 7, 10, 8, 12, 16], [9, 0, 4, 0, 11, 14, 12, 6, 2, 26, 24, 18, 16, 21, 23, 28], ce_m581), (5, 2, [], [0, 2, 4, 7, 8, 13, 10, 14, 16], [5, 0, 6, 0, 15, 0, 16, 10, 2, 12, 8, 22, 18, 24, 20, 26], ce_m635), (6, 2, [], [0, 2, 14, 5, 7, 8, 10, 12, 16], [9, 0, 4, 0, 10, 0, 0, 6, 2, 26, 24, 16, 18, 23, 21, 28], ce_m581)]) (by decide +kernel) ce_p582 (ce_pc ce_p581 (ce_pc ce_p581 (ce_pc ce_p635 (ce_pc ce_p581 ce_pn))))
def ce_m726 : Nat → Nat → Int := ce_F 9 16 0x44048800000020a041000000000009400008048000240000001200040008000082002200000050010001000000209040000000000249
theorem ce_p726 : rk_M 2 ce_m726 := ce_st (b1 := 2) (T := ce_m636) (rem := [(1, 0, 2), (1, 2, 1), (1, 3, 3)]) (rows := [0, 2, 6, 5, 13, 10, 9, 14, 17]) (cols := [0, 15, 0, 0, 2, 7, 16, 8, 10, 13, 4, 24, 23, 18, 21, 26]) (L := [(0, 2, [(4, 5, 2)], [0, 3, 12, 4, 11, 7, 8, 15, 16], [0, 12, 7, 14, 3, 0, 9, 5, 11, 24, 27, 23, 20, 17, 19, 29], ce_m580), (2, 2, [(5, 4, 3)], [0, 2, 6, 5, 9, 16, 15, 10, 13], [0, 9, 0, 3, 0, 7, 19, 20, 14, 17, 4, 12, 11, 28, 31, 26], ce_m557), (3, 2, [], [0, 2, 6, 5, 17, 8, 15, 10, 13], [0, 22, 0, 0, 2, 7, 18, 8, 14, 17, 4, 30, 29, 10, 13, 26], ce_m557), (1, 2, [], [0, 2, 6, 5, 17, 8, 15, 10, 13], [0, 0, 0, 0, 2, 7, 18, 8, 14, 17, 4, 30, 29, 10, 13, 26], ce_m557)]) (by decide +kernel) ce_p636 (ce_pc ce_p580 (ce_pc ce_p557 (ce_pc ce_p557 (ce_pc ce_p557 ce_pn))))
def ce_m727 : Nat → Nat → Int := ce_F 9 16 0x240000000240000480200080000012000088090200040000408040008000082008001000401001000001000000248200000000001209
theorem ce_p727 : rk_M 2 ce_m727 := ce_st (b1 := 2) (T := ce_m637) (rem := [(1, 0, 2), (1, 1, 6), (1, 4, 3)]) (rows := [0, 16, 3, 5, 11, 13, 7, 15, 8]) (cols := [0, 0, 14, 6, 0, 26, 24, 22, 3, 11, 17, 21, 9, 19, 12, 4]) (L := [(0, 2, [(5, 8, 1), (5, 12, 4)], [0, 10, 13, 2, 16, 6, 5, 15, 9], [0, 15, 10, 13, 6, 22, 8, 21, 0, 2, 28, 16, 0, 19, 5, 25], ce_m580), (1, 2, [(4, 9, 4)], [0, 10, 2, 5, 6, 15, 13, 16, 9], [0, 0, 25, 13, 15, 8, 21, 22, 6, 0, 18, 29, 2, 16, 10, 5], ce_m580), (4, 2, [], [0, 10, 2, 13, 6, 16, 5, 15, 9], [0, 0, 10, 13, 0, 8, 22, 21, 2, 14, 16, 28, 6, 18, 25, 5], ce_m580), (3, 2, [], [0, 10, 2, 5, 6, 15, 13, 16, 9], [0, 0, 25, 0, 0, 8, 21, 22, 6, 15, 18, 29, 2, 16, 10, 5], ce_m580)]) (by decide +kernel) ce_p637 (ce_pc ce_p580 (ce_pc ce_p580 (ce_pc ce_p580 (ce_pc ce_p580 ce_pn))))
def ce_m728 : Nat → Nat → Int := ce_F 9 15 0x48400012200490008400201002481000200241040200209048000201000000491200000248040040000009201200000000249
theorem ce_p728 : rk_M 2 ce_m728 := ce_st (b1 := 2) (T := ce_m551) (rem := []) (rows := [0, 2, 6, 5, 16, 10, 12, 15, 9]) (cols := [8, 10, 13, 17, 2, 4, 6, 14, 18, 20, 25, 22, 30, 29, 27]) (L := [(1, 2, [(3, 3, 1), (5, 6, 2), (4, 9, 0)], [0, 7, 3, 0, 9, 5, 12, 10, 14], [11, 0, 14, 18, 9, 23, 0, 3, 13, 0, 25, 21, 7, 17, 27], ce_m355), (2, 2, [(3, 3, 1), (4, 13, 3)], [0, 6, 14, 0, 9, 12, 5, 10, 3], [16, 0, 0, 9, 12, 2, 10, 26, 22, 14, 4, 18, 25, 0, 7], ce_m354), (3, 2, [(3, 3, 1), (4, 4, 0)], [0, 11, 8, 0, 4, 14, 3, 6, 13], [30, 0, 0, 0, 0, 19, 7, 16, 4, 10, 2, 20, 24, 22, 9], ce_m346), (0, 2, [(3, 3, 1)], [0, 11, 8, 0, 4, 14, 3, 6, 13], [0, 0, 0, 0, 30, 19, 7, 16, 4, 10, 2, 20, 24, 22, 9], ce_m346)]) (by decide +kernel) ce_p551 (ce_pc ce_p355 (ce_pc ce_p354 (ce_pc ce_p346 (ce_pc ce_p346 ce_pn))))
def ce_m729 : Nat → Nat → Int := ce_F 9 15 0x50082009000410082201001410002040208201001088000441400048049041000008000240001240000089008000000001209
theorem ce_p729 : rk_M 2 ce_m729 := ce_st (b1 := 2) (T := ce_m550) (rem := []) (rows := [0, 3, 5, 16, 9, 7, 14, 11, 13]) (cols := [11, 15, 3, 18, 23, 5, 7, 8, 13, 17, 21, 26, 25, 28, 31]) (L := [(0, 2, [(5, 9, 3), (5, 11, 1)], [0, 3, 5, 14, 9, 7, 12, 11, 17], [0, 21, 3, 8, 14, 11, 5, 6, 13, 0, 23, 0, 19, 25, 17], ce_m639), (3, 2, [(4, 14, 4)], [0, 2, 4, 11, 12, 14, 9, 16, 6], [0, 14, 2, 0, 20, 4, 6, 11, 8, 12, 22, 19, 24, 17], ce_m638), (4, 2, [(4, 8, 1)], [0, 3, 5, 16, 9, 7, 14, 11, 13], [0, 13, 3, 0, 0, 5, 7, 8, 0, 17, 21, 26, 25, 28, 31], ce_m550), (1, 2, [], [0, 3, 5, 16, 9, 7, 14, 11, 13], [0, 0, 3, 0, 0, 5, 7, 8, 13, 17, 21, 26, 25, 28, 31], ce_m550)]) (by decide +kernel) ce_p550 (ce_pc ce_p639 (ce_pc ce_p638 (ce_pc ce_p550 (ce_pc ce_p550 ce_pn))))
def ce_m730 : Nat → Nat → Int := ce_F 9 15 0x41082010200090041400042490000001209240000040202048080008000000491040008048200040000009208200000000249
theorem ce_p730 : rk_M 2 ce_m730 := ce_st (b1 := 2) (T := ce_m552) (rem := []) (rows := [0, 2, 6, 5, 9, 14, 17, 11, 13]) (cols := [8, 11, 12, 23, 2, 4, 6, 14, 16, 19, 21, 24, 26, 28, 31]) (L := [(2, 2, [(3, 3, 1), (3, 6, 5), (1, 4, 1), (5, 6, 1), (4, 11, 0)], [0, 3, 7, 0, 4, 10, 0, 8, 12], [15, 4, 0, 8, 0, 7, 0, 13, 23, 10, 20, 0, 19, 17, 24], ce_m160), (0, 2, [(3, 3, 1), (3, 6, 5), (1, 4, 1), (5, 5, 3)], [0, 3, 5, 0, 8, 11, 0, 12, 6], [0, 4, 0, 2, 0, 0, 7, 19, 9, 20, 13, 11, 16, 23, 14], ce_m200), (3, 2, [(3, 3, 1), (3, 6, 5), (1, 4, 1), (5, 12, 1)], [0, 3, 7, 0, 4, 10, 0, 8, 12], [0, 18, 0, 0, 0, 7, 5, 13, 23, 10, 20, 15, 0, 17, 24], ce_m160), (1, 2, [(3, 3, 1), (3, 6, 5), (1, 4, 1)], [0, 3, 7, 0, 4, 10, 0, 8, 12], [0, 0, 0, 0, 0, 7, 5, 13, 23, 10, 20, 15, 19, 17, 24], ce_m160)]) (by decide +kernel) ce_p552 (ce_pc ce_p160 (ce_pc ce_p200 (ce_pc ce_p160 (ce_pc ce_p160 ce_pn))))
def ce_m731 : Nat → Nat → Int := ce_F 9 15 0x48848004024000a08100109001004100900020a001009201000201001208001008000240001240000048081000000009041
theorem ce_p731 : rk_M 2 ce_m731 := ce_st (b1 := 2) (T := ce_m562) (rem := [(1, 4, 6)]) (rows := [0, 3, 5, 6, 16, 11, 8, 12, 14]) (cols := [11, 3, 13, 4, 0, 26, 9, 7, 17, 19, 20, 14, 23, 29, 25]) (L := [(4, 2, [(4, 9, 2), (5, 14, 5)], [0, 4, 2, 14, 16, 6, 13, 11, 8], [12, 2, 4, 15, 0, 19, 6, 8, 10, 0, 17, 21, 24, 22], ce_m649), (5, 2, [(4, 8, 0)], [0, 5, 6, 2, 8, 14, 11, 12, 17], [4, 7, 12, 2, 0, 0, 19, 11, 0, 16, 14, 8, 20, 22, 24], ce_m643), (0, 2, [(5, 11, 2)], [0, 3, 5, 6, 16, 11, 8, 12, 14], [0, 3, 15, 4, 0, 0, 9, 7, 17, 19, 20, 0, 23, 29, 25], ce_m562), (2, 2, [], [0, 3, 5, 6, 16, 11, 8, 12, 14], [0, 3, 0, 4, 0, 0, 9, 7, 17, 19, 20, 14, 23, 29, 25], ce_m562)]) (by decide +kernel) ce_p562 (ce_pc ce_p649 (ce_pc ce_p643 (ce_pc ce_p562 (ce_pc ce_p562 ce_pn))))
def ce_m732 : Nat → Nat → Int := ce_F 9 15 0x8900840020040a000241000208202040208008040209008002001240008248000040008240000240000041201000000040241
theorem ce_p732 : rk_M 2 ce_m732 := ce_st (b1 := 2) (T := ce_m563) (rem := [(1, 0, 2)]) (rows := [0, 4, 2, 6, 9, 12, 10, 16, 14]) (cols := [0, 2, 18, 25, 8, 10, 27, 14, 4, 6, 16, 12, 20, 22, 28]) (L := [(0, 2, [(5, 11, 6)], [0, 2, 14, 10, 8, 12, 6, 4, 17], [0, 6, 26, 18, 4, 2, 10, 8, 17, 20, 22, 0, 12, 14, 25], ce_m583), (2, 2, [(5, 14, 3)], [0, 6, 2, 8, 5, 16, 14, 11, 12], [0, 4, 0, 23, 7, 8, 18, 16, 2, 10, 24, 12, 20, 15], ce_m647), (6, 2, [(4, 13, 3)], [0, 4, 2, 6, 9, 12, 10, 16, 14], [0, 2, 0, 22, 8, 10, 0, 14, 4, 6, 16, 12, 20, 0, 28], ce_m563), (3, 2, [], [0, 4, 2, 6, 9, 12, 10, 16, 14], [0, 2, 0, 0, 8, 10, 0, 14, 4, 6, 16, 12, 20, 22, 28], ce_m563)]) (by decide +kernel) ce_p563 (ce_pc ce_p583 (ce_pc ce_p647 (ce_pc ce_p563 (ce_pc ce_p563 ce_pn))))
def ce_m733 : Nat → Nat → Int := ce_F 9 15 0x9240008008209040200040241040040208041040041040000011240040000409008010040440000400050040000088000081
theorem ce_p733 : rk_M 2 ce_m733 := ce_st (b1 := 2) (T := ce_m599) (rem := [(1, 0, 3), (1, 2, 4)]) (rows := [0, 6, 8, 2, 4, 10, 12, 14, 16]) (cols := [0, 4, 0, 2, 6, 8, 10, 12, 14, 24, 26, 20, 22, 18, 16]) (L := [(0, 2, [(4, 13, 10)], [0, 5, 2, 12, 10, 17, 6, 14, 9], [0, 20, 22, 13, 6, 5, 16, 15, 2, 27, 18, 11, 8, 0, 24], ce_m588), (2, 2, [(4, 14, 9)], [0, 3, 4, 11, 13, 7, 16, 8, 15], [0, 21, 0, 7, 12, 17, 4, 3, 14, 19, 26, 9, 10, 25], ce_m588), (9, 2, [(4, 10, 1)], [0, 2, 5, 10, 12, 6, 17, 9, 14], [0, 20, 0, 6, 13, 16, 5, 2, 15, 0, 0, 8, 11, 24, 18], ce_m588), (10, 2, [], [0, 2, 5, 10, 12, 6, 17, 9, 14], [0, 20, 0, 6, 13, 16, 5, 2, 15, 0, 0, 8, 11, 24, 18], ce_m588)]) (by decide +kernel) ce_p599 (ce_pc ce_p588 (ce_pc ce_p588 (ce_pc ce_p588 (ce_pc ce_p588 ce_pn))))
def ce_m734 : Nat → Nat → Int := ce_F 9 15 0x9024800800004a010088001210408008008410208008001000010488040000009208001008208000001008208000201000009
theorem ce_p734 : rk_M 2 ce_m734 := ce_st (b1 := 2) (T := ce_m595) (rem := [(1, 0, 3), (1, 1, 4)]) (rows := [0, 6, 8, 2, 5, 10, 12, 14, 16]) (cols := [0, 0, 2, 4, 6, 8, 10, 12, 22, 16, 19, 27, 15, 20, 24]) (L := [(0, 2, [(5, 13, 11)], [0, 5, 2, 14, 11, 17, 6, 13, 9], [0, 25, 15, 8, 13, 6, 17, 2, 26, 5, 10, 19, 23, 0, 20], ce_m592), (1, 2, [(5, 12, 8)], [0, 4, 6, 2, 11, 12, 14, 8, 17], [0, 0, 4, 6, 2, 11, 8, 16, 21, 18, 12, 23, 0, 14, 24], ce_m651), (8, 2, [(5, 14, 11)], [0, 13, 16, 7, 11, 14, 5, 3, 8], [0, 0, 31, 17, 5, 8, 23, 11, 0, 12, 26, 14, 7, 3], ce_m550), (11, 2, [], [0, 13, 16, 7, 11, 14, 5, 3, 8], [0, 0, 31, 17, 5, 8, 23, 11, 0, 12, 26, 0, 7, 3, 15], ce_m550)]) (by decide +kernel) ce_p595 (ce_pc ce_p592 (ce_pc ce_p651 (ce_pc ce_p550 (ce_pc ce_p550 ce_pn))))
def ce_m735 : Nat → Nat → Int := ce_F 9 15 0x88048080200450001009001048080201001041010040001042008040000048010440000240008240000049001000000001241
theorem ce_p735 : rk_M 2 ce_m735 := ce_st (b1 := 2) (T := ce_m565) (rem := [(1, 0, 2)]) (rows := [0, 5, 3, 7, 10, 9, 14, 17, 13]) (cols := [0, 3, 16, 13, 18, 11, 9, 15, 7, 5, 22, 21, 26, 25, 28]) (L := [(0, 2, [(2, 3, 2), (5, 8, 2), (4, 13, 3)], [0, 2, 4, 0, 6, 9, 10, 14, 13], [0, 6, 13, 20, 15, 2, 8, 4, 0, 10, 16, 19, 23, 0, 25], ce_m428), (4, 2, [(2, 3, 2), (4, 9, 3), (4, 12, 2)], [0, 3, 5, 0, 8, 11, 12, 7, 15], [0, 5, 16, 15, 0, 11, 3, 7, 13, 0, 20, 23, 0, 19, 24], ce_m393), (2, 2, [(2, 3, 2)], [0, 3, 5, 0, 8, 11, 12, 7, 15], [0, 5, 0, 9, 0, 11, 3, 7, 13, 15, 20, 23, 16, 19, 24], ce_m393), (3, 2, [(2, 3, 2)], [0, 3, 5, 0, 8, 11, 12, 7, 15], [0, 5, 0, 0, 0, 11, 3, 7, 13, 15, 20, 23, 16, 19, 24], ce_m393)]) (by decide +kernel) ce_p565 (ce_pc ce_p428 (ce_pc ce_p393 (ce_pc ce_p393 (ce_pc ce_p393 ce_pn))))
def ce_m736 : Nat → Nat → Int := ce_F 9 15 0x90012080040240200090040001408401201241008000212080009000002200411000000049040000001001040200000000049
theorem ce_p736 : rk_M 2 ce_m736 := ce_st (b1 := 2) (T := ce_m554) (rem := []) (rows := [0, 3, 4, 7, 8, 14, 12, 11, 17]) (cols := [11, 27, 30, 3, 4, 7, 8, 12, 14, 17, 19, 20, 23, 25, 29]) (L := [(0, 2, [(5, 9, 2)], [0, 5, 2, 9, 12, 16, 6, 15, 11], [0, 16, 12, 7, 10, 15, 8, 2, 4, 0, 18, 22, 27, 20, 24], ce_m591), (1, 2, [(5, 14, 2)], [0, 2, 5, 6, 9, 15, 13, 10, 16], [0, 0, 29, 2, 5, 6, 9, 13, 15, 16, 18, 21, 22, 24], ce_m554), (2, 2, [], [0, 2, 5, 6, 9, 15, 13, 10, 16], [0, 0, 0, 2, 5, 6, 9, 13, 15, 16, 18, 21, 22, 24, 28], ce_m554)]) (by decide +kernel) ce_p554 (ce_pc ce_p591 (ce_pc ce_p554 (ce_pc ce_p554 ce_pn)))
def ce_m737 : Nat → Nat → Int := ce_F 9 15 0x90088080040202208080040410000481201208048000202200081400041000048008000242040000010081040000000000049
theorem ce_p737 : rk_M 2 ce_m737 := ce_st (b1 := 2) (T := ce_m554) (rem := []) (rows := [0, 2, 5, 9, 7, 14, 10, 13, 17]) (cols := [23, 26, 28, 2, 5, 6, 8, 11, 13, 15, 17, 19, 20, 25, 31]) (L := [(0, 2, [(3, 6, 3), (5, 13, 2)], [0, 5, 3, 11, 7, 12, 0, 14, 9], [0, 26, 21, 5, 7, 11, 8, 16, 15, 3, 12, 19, 22, 0, 24], ce_m365), (1, 2, [(3, 6, 3), (5, 14, 2)], [0, 4, 2, 10, 6, 13, 0, 15, 8], [0, 0, 24, 4, 6, 10, 9, 17, 14, 2, 13, 18, 23, 21], ce_m365), (2, 2, [(3, 6, 3)], [0, 4, 2, 10, 6, 13, 0, 15, 8], [0, 0, 0, 4, 6, 10, 9, 17, 14, 2, 13, 18, 23, 21, 25], ce_m365)]) (by decide +kernel) ce_p554 (ce_pc ce_p365 (ce_pc ce_p365 (ce_pc ce_p365 ce_pn)))
def ce_m738 : Nat → Nat → Int := ce_F 9 15 0x4a082200000200051440000410040011000480040400208200040208009000048040001200088000000208009000000208009
theorem ce_p738 : rk_M 2 ce_m738 := ce_st (b1 := 2) (T := ce_m574) (rem := [(1, 0, 5)]) (rows := [0, 7, 2, 9, 12, 4, 11, 16, 14]) (cols := [0, 9, 5, 6, 3, 27, 15, 22, 17, 20, 18, 11, 13, 24, 28]) (L := [(0, 2, [(3, 5, 3), (4, 14, 7)], [0, 4, 3, 10, 15, 0, 8, 7, 12], [0, 14, 8, 11, 4, 19, 12, 21, 16, 3, 7, 25, 22, 27], ce_m369), (5, 2, [(3, 5, 3), (4, 6, 1), (5, 12, 7)], [0, 7, 11, 13, 3, 0, 14, 4, 9], [0, 3, 27, 7, 18, 0, 0, 17, 21, 12, 14, 9, 0, 5, 10], ce_m363), (1, 2, [(3, 5, 3)], [0, 7, 4, 3, 11, 0, 12, 8, 14], [0, 0, 9, 12, 3, 0, 15, 4, 17, 6, 20, 11, 19, 23, 24], ce_m413), (7, 2, [(3, 5, 3)], [0, 7, 11, 13, 3, 0, 14, 4, 9], [0, 0, 27, 7, 18, 0, 3, 0, 21, 12, 14, 9, 16, 5, 10], ce_m363)]) (by decide +kernel) ce_p574 (ce_pc ce_p369 (ce_pc ce_p363 (ce_pc ce_p413 (ce_pc ce_p363 ce_pn))))
def ce_m739 : Nat → Nat → Int := ce_F 9 15 0x9024900000020a082200000080200448000200201408040000041208040001040208000240009000040041001000040041001
theorem ce_p739 : rk_M 2 ce_m739 := ce_st (b1 := 2) (T := ce_m606) (rem := [(1, 0, 3), (1, 10, 8)]) (rows := [0, 7, 5, 3, 15, 9, 10, 16, 12]) (cols := [0, 11, 3, 15, 20, 5, 27, 7, 13, 17, 0, 19, 23, 9, 25]) (L := [(0, 2, [(5, 13, 10)], [0, 2, 4, 14, 6, 10, 8, 17, 12], [0, 2, 14, 4, 18, 8, 26, 16, 6, 10, 24, 12, 23, 0, 20], ce_m598), (10, 2, [(4, 14, 6)], [0, 3, 9, 7, 5, 13, 11, 14, 16], [0, 3, 9, 7, 13, 11, 19, 5, 21, 15, 0, 17, 24, 23], ce_m656), (6, 2, [(5, 12, 4)], [0, 16, 14, 8, 2, 10, 12, 6, 5], [0, 8, 24, 6, 13, 16, 0, 23, 21, 15, 0, 19, 0, 10, 2], ce_m587), (4, 2, [], [0, 16, 14, 8, 2, 10, 12, 6, 5], [0, 8, 24, 6, 0, 16, 0, 23, 21, 15, 0, 19, 12, 10, 2], ce_m587)]) (by decide +kernel) ce_p606 (ce_pc ce_p598 (ce_pc ce_p656 (ce_pc ce_p587 (ce_pc ce_p587 ce_pn))))
def ce_m740 : Nat → Nat → Int := ce_F 9 15 0x5228800000044a011000000001041200200001049001040001040440040001050008002288000000200008208000200008201
theorem ce_p740 : rk_M 2 ce_m740 := ce_st (b1 := 2) (T := ce_m602) (rem := [(1, 0, 3), (1, 3, 4)]) (rows := [0, 3, 8, 6, 5, 13, 11, 14, 16]) (cols := [0, 25, 3, 0, 5, 12, 7, 10, 9, 16, 15, 27, 19, 22, 21]) (L := [(0, 2, [(4, 5, 1), (5, 13, 11)], [0, 2, 5, 7, 16, 11, 14, 12, 9], [0, 19, 16, 26, 2, 0, 12, 11, 14, 7, 8, 20, 4, 0, 25], ce_m600), (3, 2, [(4, 14, 11)], [0, 2, 5, 9, 6, 12, 10, 15, 17], [0, 26, 2, 0, 4, 18, 6, 11, 8, 17, 14, 20, 12, 23], ce_m585), (11, 2, [], [0, 3, 4, 8, 7, 13, 11, 14, 16], [0, 27, 3, 0, 5, 24, 7, 10, 9, 16, 15, 0, 13, 22, 21], ce_m585), (5, 2, [], [0, 3, 4, 8, 7, 13, 11, 14, 16], [0, 27, 3, 0, 5, 0, 7, 10, 9, 16, 15, 0, 13, 22, 21], ce_m585)]) (by decide +kernel) ce_p602 (ce_pc ce_p600 (ce_pc ce_p585 (ce_pc ce_p585 (ce_pc ce_p585 ce_pn))))
def ce_m741 : Nat → Nat → Int := ce_F 9 15 0x5049100000000105005100000901100204820000900100900020100800040140100000800000a040001001009000001001009
theorem ce_p741 : rk_M 2 ce_m741 := ce_st (b1 := 2) (T := ce_m555) (rem := []) (rows := [0, 5, 2, 6, 11, 9, 12, 14, 16]) (cols := [14, 7, 3, 4, 27, 9, 10, 13, 31, 17, 18, 20, 23, 29, 25]) (L := [(0, 2, [(5, 11, 8)], [0, 3, 11, 5, 15, 9, 16, 7, 12], [0, 9, 11, 7, 26, 3, 13, 17, 24, 5, 14, 0, 21, 23, 19], ce_m593), (4, 2, [(4, 5, 1), (5, 13, 8)], [0, 5, 2, 6, 11, 9, 12, 14, 16], [0, 9, 3, 4, 0, 0, 10, 13, 28, 17, 18, 20, 23, 0, 25], ce_m555), (8, 2, [], [0, 6, 3, 5, 9, 15, 11, 13, 16], [0, 11, 4, 3, 0, 17, 14, 9, 0, 21, 18, 7, 13, 23, 25], ce_m674), (1, 2, [], [0, 5, 2, 6, 11, 9, 12, 14, 16], [0, 0, 3, 4, 0, 9, 10, 13, 0, 17, 18, 20, 23, 29, 25], ce_m555)]) (by decide +kernel) ce_p555 (ce_pc ce_p593 (ce_pc ce_p555 (ce_pc ce_p674 (ce_pc ce_p555 ce_pn))))
def ce_m742 : Nat → Nat → Int := ce_F 9 15 0x88202400200000452401000240080401008200040208009000050008001000049000000041002200008040008200008000209
theorem ce_p742 : rk_M 2 ce_m742 := ce_st (b1 := 2) (T := ce_m611) (rem := [(1, 0, 1), (1, 9, 7)]) (rows := [0, 3, 4, 7, 14, 9, 11, 12, 16]) (cols := [0, 8, 3, 19, 11, 14, 12, 7, 16, 0, 5, 21, 23, 25, 27]) (L := [(0, 2, [(5, 10, 9)], [0, 10, 5, 2, 9, 6, 13, 14, 16], [0, 7, 10, 12, 2, 4, 9, 22, 15, 19, 0, 16, 20, 25, 26], ce_m600), (9, 2, [(4, 6, 1), (4, 11, 3)], [0, 10, 5, 2, 9, 6, 13, 14, 16], [0, 9, 10, 16, 2, 4, 0, 22, 15, 0, 18, 0, 20, 25, 26], ce_m600), (1, 2, [], [0, 3, 4, 7, 14, 9, 11, 12, 16], [0, 0, 3, 9, 11, 14, 12, 7, 16, 0, 5, 19, 21, 23, 25], ce_m660), (3, 2, [], [0, 10, 5, 2, 9, 6, 13, 14, 16], [0, 0, 10, 0, 2, 4, 9, 22, 15, 0, 18, 16, 20, 25, 26], ce_m600)]) (by decide +kernel) ce_p611 (ce_pc ce_p600 (ce_pc ce_p600 (ce_pc ce_p660 (ce_pc ce_p600 ce_pn))))
def ce_m743 : Nat → Nat → Int := ce_F 9 15 0x8848a00000000244240100104001040100120000820800100a010008000008049000008008002200008008008200008000209
theorem ce_p743 : rk_M 2 ce_m743 := ce_st (b1 := 2) (T := ce_m578) (rem := [(1, 0, 1)]) (rows := [0, 3, 4, 7, 12, 9, 11, 14, 16]) (cols := [0, 8, 3, 19, 11, 12, 5, 14, 17, 28, 7, 20, 23, 25, 27]) (L := [(0, 2, [], [0, 12, 5, 2, 11, 6, 9, 14, 17], [0, 13, 6, 14, 2, 4, 24, 11, 8, 27, 28, 17, 18, 20, 23], ce_m566), (1, 2, [(5, 11, 9)], [0, 2, 5, 6, 9, 10, 12, 15, 17], [0, 0, 2, 8, 14, 11, 4, 17, 12, 18, 6, 0, 20, 22, 24], ce_m676), (3, 2, [(5, 9, 8)], [0, 12, 5, 2, 11, 6, 9, 14, 17], [0, 0, 6, 0, 2, 4, 24, 11, 8, 0, 28, 17, 18, 20, 23], ce_m566), (9, 2, [], [0, 12, 5, 2, 11, 6, 9, 14, 17], [0, 0, 6, 0, 2, 4, 24, 11, 8, 0, 28, 17, 18, 20, 23], ce_m566)]) (by decide +kernel) ce_p578 (ce_pc ce_p566 (ce_pc ce_p676 (ce_pc ce_p566 (ce_pc ce_p566 ce_pn))))
def ce_m744 : Nat → Nat → Int := ce_F 9 15 0x41041000048041048000242200011440008000041008008000041040000401002080000401000480400401040000402001001
theorem ce_p744 : rk_M 2 ce_m744 := ce_st (b1 := 2) (T := ce_m619) (rem := [(1, 0, 2), (1, 11, 7)]) (rows := [0, 9, 2, 4, 6, 11, 16, 13, 15]) (cols := [0, 3, 11, 9, 22, 15, 4, 12, 19, 7, 21, 0, 25, 17, 27]) (L := [(0, 2, [(4, 6, 4), (4, 11, 9)], [0, 3, 10, 6, 4, 13, 8, 14, 16], [0, 23, 14, 3, 6, 5, 0, 20, 12, 19, 27, 0, 16, 8, 25], ce_m600), (11, 2, [(4, 12, 8), (4, 13, 4)], [0, 3, 14, 16, 4, 13, 8, 10, 6], [0, 22, 10, 17, 6, 5, 8, 25, 2, 18, 26, 0, 0, 0, 20], ce_m600), (4, 2, [], [0, 9, 2, 4, 6, 11, 16, 13, 15], [0, 3, 11, 9, 0, 17, 4, 14, 13, 7, 21, 0, 23, 19, 25], ce_m666), (8, 2, [], [0, 3, 14, 16, 4, 13, 8, 10, 6], [0, 22, 10, 17, 0, 5, 8, 25, 0, 18, 26, 0, 2, 6, 20], ce_m600)]) (by decide +kernel) ce_p619 (ce_pc ce_p600 (ce_pc ce_p600 (ce_pc ce_p666 (ce_pc ce_p600 ce_pn))))
def ce_m745 : Nat → Nat → Int := ce_F 9 15 0x8a288000000208208000240208240001200400081002000400081010400011001000400081000040008001048000008001041
theorem ce_p745 : rk_M 2 ce_m745 := ce_st (b1 := 2) (T := ce_m617) (rem := [(1, 0, 2), (1, 4, 4)]) (rows := [0, 11, 3, 7, 4, 8, 12, 14, 16]) (cols := [0, 7, 22, 15, 0, 16, 5, 13, 2, 26, 24, 11, 21, 8, 18]) (L := [(0, 2, [(5, 6, 4), (4, 13, 9)], [0, 9, 4, 10, 3, 7, 12, 16, 14], [0, 6, 15, 13, 5, 3, 0, 10, 17, 19, 23, 8, 20, 0, 25], ce_m675), (4, 2, [(4, 11, 9)], [0, 9, 3, 7, 4, 10, 12, 16, 14], [0, 17, 15, 3, 0, 13, 5, 11, 6, 19, 23, 0, 25, 8, 20], ce_m675), (9, 2, [(4, 10, 2)], [0, 2, 10, 6, 14, 16, 5, 12, 9], [0, 15, 4, 2, 0, 16, 18, 26, 11, 0, 0, 9, 24, 7, 21], ce_m600), (2, 2, [], [0, 2, 10, 6, 14, 16, 5, 12, 9], [0, 15, 0, 2, 0, 16, 18, 26, 11, 0, 4, 9, 24, 7, 21], ce_m600)]) (by decide +kernel) ce_p617 (ce_pc ce_p675 (ce_pc ce_p675 (ce_pc ce_p600 (ce_pc ce_p600 ce_pn))))
def ce_m746 : Nat → Nat → Int := ce_F 9 15 0x52448000000012212040001000042081001000080409001001002200000040280040008008040040008001040200000000049
theorem ce_p746 : rk_M 2 ce_m746 := ce_st (b1 := 2) (T := ce_m557) (rem := []) (rows := [0, 2, 4, 9, 7, 11, 13, 14, 16]) (cols := [2, 11, 27, 7, 4, 8, 12, 14, 17, 19, 20, 22, 25, 29, 31]) (L := [(0, 2, [], [0, 8, 12, 3, 4, 11, 6, 14, 17], [0, 7, 18, 4, 9, 10, 3, 20, 12, 15, 26, 28, 16, 25, 22], ce_m570), (1, 2, [(5, 6, 2)], [0, 2, 7, 9, 4, 12, 10, 14, 16], [0, 0, 10, 2, 5, 8, 0, 17, 14, 19, 20, 25, 22, 30, 28], ce_m557), (2, 2, [], [0, 2, 7, 9, 4, 12, 10, 14, 16], [0, 0, 0, 2, 5, 8, 11, 17, 14, 19, 20, 25, 22, 30, 28], ce_m557)]) (by decide +kernel) ce_p557 (ce_pc ce_p570 (ce_pc ce_p557 (ce_pc ce_p557 ce_pn)))
def ce_m747 : Nat → Nat → Int := ce_F 9 15 0x41480000048081090001001010050400000012010408008049000001008041200000000080240200048000040200000000049
theorem ce_p747 : rk_M 2 ce_m747 := ce_st (b1 := 2) (T := ce_m559) (rem := []) (rows := [0, 7, 4, 3, 13, 8, 11, 14, 16]) (cols := [13, 26, 28, 14, 10, 6, 3, 9, 19, 17, 21, 22, 25, 5, 31]) (L := [(0, 2, [(5, 10, 2)], [0, 8, 6, 4, 10, 3, 17, 15, 13], [0, 10, 9, 18, 4, 16, 2, 14, 21, 6, 0, 22, 12, 24, 27], ce_m622), (1, 2, [(5, 4, 2)], [0, 7, 3, 4, 14, 11, 8, 13, 16], [0, 0, 8, 13, 0, 3, 6, 10, 16, 18, 22, 21, 26, 4, 28], ce_m559), (2, 2, [], [0, 7, 3, 4, 14, 11, 8, 13, 16], [0, 0, 0, 13, 9, 3, 6, 10, 16, 18, 22, 21, 26, 4, 28], ce_m559)]) (by decide +kernel) ce_p559 (ce_pc ce_p622 (ce_pc ce_p559 (ce_pc ce_p559 ce_pn)))
def ce_m748 : Nat → Nat → Int := ce_F 9 15 0x2211080008210400400241400280001001000041200200200089000008040041000000040088200008048000200000000049
theorem ce_p748 : rk_M 2 ce_m748 := ce_st (b1 := 2) (T := ce_m629) (rem := [(4, 7, 0), (4, 14, 2)]) (rows := [0, 3, 8, 11, 6, 5, 12, 14, 16]) (cols := [5, 22, 20, 2, 13, 15, 7, 0, 16, 19, 9, 26, 25, 11]) (L := [(0, 2, [], [0, 10, 3, 5, 6, 12, 8, 17, 15], [0, 15, 20, 3, 4, 7, 13, 26, 9, 11, 28, 16, 19, 23, 24], ce_m568), (2, 2, [(4, 8, 1)], [0, 11, 2, 4, 7, 13, 9, 16, 14], [0, 8, 0, 2, 5, 6, 12, 27, 0, 10, 29, 17, 18, 22, 25], ce_m568), (1, 2, [], [0, 11, 2, 4, 7, 13, 9, 16, 14], [0, 0, 0, 2, 5, 6, 12, 27, 8, 10, 29, 17, 18, 22, 25], ce_m568)]) (by decide +kernel) ce_p629 (ce_pc ce_p568 (ce_pc ce_p568 (ce_pc ce_p568 ce_pn)))
def ce_m749 : Nat → Nat → Int := ce_F 9 15 0x904804000124900000020a001080400200002042009000401240000080400050000080002048000001001040200000000049
theorem ce_p749 : rk_M 2 ce_m749 := ce_st (b1 := 2) (T := ce_m557) (rem := []) (rows := [0, 5, 3, 7, 8, 10, 12, 16, 14]) (cols := [23, 26, 28, 3, 6, 5, 8, 10, 13, 15, 16, 19, 20, 24, 31]) (L := [(1, 2, [(4, 14, 2)], [0, 4, 2, 9, 11, 7, 13, 14, 16], [10, 0, 26, 2, 4, 8, 13, 7, 17, 14, 22, 18, 21, 24], ce_m621), (2, 2, [(4, 9, 0)], [0, 6, 3, 4, 8, 13, 11, 16, 14], [16, 0, 0, 6, 3, 4, 8, 13, 10, 0, 15, 19, 20, 23, 28], ce_m557), (0, 2, [], [0, 6, 3, 4, 8, 13, 11, 16, 14], [0, 0, 0, 6, 3, 4, 8, 13, 10, 16, 15, 19, 20, 23, 28], ce_m557)]) (by decide +kernel) ce_p557 (ce_pc ce_p621 (ce_pc ce_p557 (ce_pc ce_p557 ce_pn)))
def ce_m750 : Nat → Nat → Int := ce_F 9 15 0x8a44000000005228000000044004001004800005220000000a011000040001001200040001001040040001041000040001009
theorem ce_p750 : rk_M 2 ce_m750 := ce_st (b1 := 2) (T := ce_m579) (rem := [(1, 1, 1)]) (rows := [0, 3, 9, 5, 6, 10, 12, 14, 16]) (cols := [20, 0, 9, 3, 12, 5, 19, 11, 14, 16, 28, 7, 24, 23, 26]) (L := [(1, 2, [(5, 5, 4), (5, 11, 10)], [0, 8, 11, 16, 3, 7, 12, 4, 14], [13, 0, 21, 22, 5, 0, 8, 19, 6, 3, 10, 0, 15, 24, 17], ce_m626), (0, 2, [(5, 12, 10)], [0, 3, 13, 9, 10, 16, 14, 4, 6], [0, 0, 11, 5, 16, 7, 25, 21, 23, 9, 14, 3, 0, 12, 19], ce_m685), (4, 2, [], [0, 5, 3, 7, 10, 12, 8, 14, 16], [0, 0, 3, 5, 0, 7, 11, 19, 14, 21, 23, 13, 9, 17, 24], ce_m684), (10, 2, [], [0, 2, 15, 4, 17, 13, 9, 11, 7], [0, 0, 12, 2, 0, 6, 16, 10, 27, 28, 0, 4, 21, 18, 14], ce_m569)]) (by decide +kernel) ce_p579 (ce_pc ce_p626 (ce_pc ce_p685 (ce_pc ce_p684 (ce_pc ce_p569 ce_pn))))
def ce_m751 : Nat → Nat → Int := ce_F 9 15 0x5240100000029200100000108100204000a001002040000200001208040200002200040200080040000208009000000208009
theorem ce_p751 : rk_M 2 ce_m751 := ce_st (b1 := 2) (T := ce_m686) (rem := [(1, 0, 2), (1, 5, 5), (1, 7, 7)]) (rows := [0, 10, 3, 12, 6, 5, 14, 8, 16]) (cols := [0, 8, 10, 13, 4, 0, 21, 0, 22, 3, 24, 16, 7, 14, 19]) (L := [(0, 2, [(5, 9, 5)], [0, 13, 16, 4, 3, 9, 15, 10, 6], [0, 7, 10, 3, 9, 26, 17, 28, 14, 0, 12, 5, 25, 18, 21], ce_m569), (5, 2, [], [0, 7, 2, 8, 5, 16, 11, 15, 13], [0, 11, 9, 13, 3, 0, 14, 27, 17, 6, 19, 21, 4, 22, 25], ce_m623), (7, 2, [], [0, 16, 5, 2, 15, 9, 6, 13, 11], [0, 28, 14, 11, 12, 0, 23, 0, 25, 5, 2, 20, 9, 6, 18], ce_m570), (1, 2, [], [0, 12, 17, 5, 2, 8, 14, 11, 7], [0, 0, 11, 2, 8, 0, 16, 0, 15, 26, 13, 4, 24, 19, 20], ce_m569)]) (by decide +kernel) ce_p686 (ce_pc ce_p569 (ce_pc ce_p623 (ce_pc ce_p570 (ce_pc ce_p569 ce_pn))))
def ce_m752 : Nat → Nat → Int := ce_F 9 15 0x41208000048048208000240011440000008000041008008000041040000081002080000081000480480001040002080001001
theorem ce_p752 : rk_M 2 ce_m752 := ce_st (b1 := 2) (T := ce_m625) (rem := [(1, 0, 2), (1, 4, 4)]) (rows := [0, 12, 3, 9, 5, 11, 6, 14, 16]) (cols := [0, 6, 9, 14, 0, 17, 3, 13, 4, 19, 22, 21, 26, 11, 25]) (L := [(0, 2, [(4, 6, 4), (4, 10, 8)], [0, 10, 6, 12, 2, 8, 5, 15, 16], [0, 23, 8, 18, 4, 14, 0, 16, 7, 2, 0, 10, 21, 12, 24], ce_m687), (4, 2, [], [0, 8, 3, 7, 13, 10, 4, 14, 16], [0, 4, 22, 8, 0, 12, 7, 11, 2, 15, 18, 17, 20, 26, 24], ce_m616), (10, 2, [(4, 12, 11)], [0, 8, 3, 7, 13, 10, 4, 14, 16], [0, 4, 22, 8, 0, 12, 7, 11, 2, 15, 0, 17, 0, 26, 24], ce_m616), (12, 2, [], [0, 8, 3, 7, 13, 10, 4, 14, 16], [0, 4, 22, 8, 0, 12, 7, 11, 2, 15, 0, 17, 0, 26, 24], ce_m616)]) (by decide +kernel) ce_p625 (ce_pc ce_p687 (ce_pc ce_p616 (ce_pc ce_p616 (ce_pc ce_p616 ce_pn))))
def ce_m753 : Nat → Nat → Int := ce_F 9 15 0x41041000048041048000241000008201001000008208000000451000000401002080000401000480400401040000402001001
theorem ce_p753 : rk_M 2 ce_m753 := ce_st (b1 := 2) (T := ce_m628) (rem := [(1, 0, 2), (1, 11, 7)]) (rows := [0, 10, 3, 9, 5, 7, 12, 14, 16]) (cols := [0, 4, 17, 10, 9, 14, 3, 12, 21, 6, 22, 0, 25, 19, 26]) (L := [(0, 2, [(4, 6, 4), (4, 11, 9)], [0, 11, 6, 13, 2, 4, 9, 14, 16], [0, 15, 8, 13, 4, 3, 0, 7, 17, 19, 24, 0, 22, 10, 21], ce_m688), (11, 2, [(4, 12, 8)], [0, 2, 5, 7, 9, 13, 10, 14, 16], [0, 8, 18, 2, 17, 4, 7, 15, 11, 12, 20, 0, 0, 24, 22], ce_m689), (4, 2, [], [0, 10, 3, 9, 5, 7, 12, 14, 16], [0, 4, 17, 8, 0, 12, 3, 10, 15, 6, 20, 0, 23, 19, 24], ce_m681), (8, 2, [], [0, 10, 3, 9, 5, 7, 12, 14, 16], [0, 4, 17, 10, 0, 14, 3, 12, 0, 6, 22, 0, 25, 19, 26], ce_m628)]) (by decide +kernel) ce_p628 (ce_pc ce_p688 (ce_pc ce_p689 (ce_pc ce_p681 (ce_pc ce_p628 ce_pn))))
def ce_m754 : Nat → Nat → Int := ce_F 9 15 0x1248024000041044000020141004000004120000044000000809004000000a040008009000040200000048041000000000049
theorem ce_p754 : rk_M 2 ce_m754 := ce_st (b1 := 2) (T := ce_m632) (rem := [(4, 8, 0), (4, 9, 2)]) (rows := [0, 10, 12, 3, 4, 14, 7, 8, 16]) (cols := [5, 2, 8, 16, 18, 7, 13, 10, 0, 0, 27, 20, 25, 22, 15]) (L := [(0, 2, [], [0, 5, 6, 10, 8, 3, 14, 12, 17], [0, 7, 14, 3, 4, 11, 9, 19, 26, 12, 20, 24, 17, 23, 29], ce_m576), (1, 2, [], [0, 4, 7, 9, 11, 2, 13, 15, 16], [0, 0, 7, 2, 5, 11, 18, 8, 13, 27, 25, 21, 22, 16, 29], ce_m576), (2, 2, [], [0, 4, 7, 9, 11, 2, 13, 15, 16], [0, 0, 0, 2, 5, 11, 18, 8, 13, 27, 25, 21, 22, 16, 29], ce_m576)]) (by decide +kernel) ce_p632 (ce_pc ce_p576 (ce_pc ce_p576 (ce_pc ce_p576 ce_pn)))
def ce_m755 : Nat → Nat → Int := ce_F 9 15 0x8a400400008001210200200048200001040400089000000050200200201000208000200000440200000201040200000000049
theorem ce_p755 : rk_M 2 ce_m755 := ce_st (b1 := 2) (T := ce_m580) (rem := [(4, 13, 1)]) (rows := [0, 7, 2, 4, 11, 9, 16, 14, 12]) (cols := [19, 6, 28, 9, 2, 5, 10, 12, 17, 22, 20, 26, 24, 0, 14]) (L := [(0, 2, [(5, 8, 2)], [0, 6, 8, 11, 2, 15, 13, 4, 16], [0, 16, 8, 6, 10, 14, 12, 20, 0, 5, 2, 19, 23, 24, 27], ce_m630), (1, 2, [], [0, 3, 6, 10, 5, 9, 12, 14, 16], [0, 0, 15, 3, 10, 5, 13, 19, 7, 8, 23, 16, 20, 24, 27], ce_m627), (2, 2, [], [0, 7, 2, 4, 11, 9, 16, 14, 12], [0, 0, 0, 9, 2, 5, 10, 12, 17, 22, 20, 26, 24, 6, 14], ce_m580)]) (by decide +kernel) ce_p580 (ce_pc ce_p630 (ce_pc ce_p627 (ce_pc ce_p580 ce_pn)))
def ce_m756 : Nat → Nat → Int := ce_F 9 15 0x48048000240009240000240400481000010010201000000410401000010401000008000001209000000000209200000000408
theorem ce_p756 : rk_M 2 ce_m756 := ce_st (b1 := 2) (T := ce_m561) (rem := []) (rows := [0, 2, 4, 6, 10, 8, 12, 14, 16]) (cols := [2, 20, 6, 22, 10, 8, 12, 14, 16, 4, 18, 24, 28, 26, 30]) (L := [(1, 2, [(4, 3, 2)], [0, 11, 13, 3, 6, 5, 8, 14, 16], [11, 0, 4, 0, 14, 13, 16, 3, 9, 18, 6, 28, 20, 30, 22], ce_m561), (3, 2, [], [0, 11, 13, 3, 6, 5, 8, 14, 16], [11, 0, 4, 0, 14, 13, 16, 3, 9, 18, 6, 28, 20, 30, 22], ce_m561)]) (by decide +kernel) ce_p561 (ce_pc ce_p561 (ce_pc ce_p561 ce_pn))
def ce_m757 : Nat → Nat → Int := ce_F 9 14 0xa44040100040240a20000800a00044004028001100020104020100104040220004100100900000a010200000009041
theorem ce_p757 : rk_M 2 ce_m757 := ce_st (b1 := 2) (T := ce_m567) (rem := []) (rows := [0, 2, 4, 6, 9, 10, 12, 14, 17]) (cols := [10, 2, 13, 5, 20, 23, 7, 8, 14, 16, 18, 25, 26, 28]) (L := [(0, 2, [(2, 3, 2), (5, 8, 2), (5, 11, 4)], [0, 9, 10, 0, 6, 3, 13, 14, 4], [0, 13, 7, 2, 10, 21, 18, 15, 0, 9, 16, 0, 5, 26], ce_m361), (4, 2, [(2, 3, 2), (5, 10, 5)], [0, 2, 4, 0, 7, 12, 10, 8, 14], [0, 2, 11, 7, 0, 15, 5, 12, 8, 19, 0, 17, 22, 21], ce_m460), (5, 2, [(2, 3, 2), (4, 9, 2)], [0, 9, 10, 0, 6, 3, 13, 14, 4], [0, 13, 9, 2, 0, 0, 18, 15, 6, 0, 16, 11, 5, 26], ce_m361), (2, 2, [(2, 3, 2)], [0, 9, 10, 0, 6, 3, 13, 14, 4], [0, 13, 0, 2, 0, 0, 18, 15, 6, 9, 16, 11, 5, 26], ce_m361)]) (by decide +kernel) ce_p567 (ce_pc ce_p361 (ce_pc ce_p460 (ce_pc ce_p361 (ce_pc ce_p361 ce_pn))))
def ce_m758 : Nat → Nat → Int := ce_F 9 14 0x1200148800009204200100900220200804840008800004804100100120020024000008a008000040009040000200049
theorem ce_p758 : rk_M 2 ce_m758 := ce_st (b1 := 2) (T := ce_m600) (rem := [(4, 13, 7)]) (rows := [0, 2, 4, 8, 12, 6, 10, 16, 14]) (cols := [4, 6, 16, 2, 11, 8, 15, 18, 12, 21, 24, 26, 22]) (L := [(2, 2, [(5, 8, 7), (4, 10, 0)], [0, 2, 7, 5, 9, 12, 11, 16, 14], [17, 3, 0, 4, 12, 9, 14, 7, 0, 11, 0, 23, 21, 19], ce_m698), (7, 2, [(4, 5, 1)], [0, 2, 4, 6, 8, 12, 11, 14, 16], [2, 4, 0, 6, 8, 0, 12, 0, 10, 14, 16, 18, 21, 23], ce_m696), (0, 2, [], [0, 4, 7, 3, 10, 14, 13, 16, 9], [0, 5, 0, 6, 16, 3, 14, 0, 13, 9, 11, 20, 22, 18], ce_m700), (1, 2, [], [0, 2, 4, 8, 12, 6, 10, 16, 14], [0, 0, 0, 2, 11, 8, 15, 0, 12, 21, 24, 26, 22, 18], ce_m600)]) (by decide +kernel) ce_p600 (ce_pc ce_p698 (ce_pc ce_p696 (ce_pc ce_p700 (ce_pc ce_p600 ce_pn))))
def ce_m759 : Nat → Nat → Int := ce_F 9 14 0x8250440000288410001008001410048012008088000240009001041001000240009081000000008208040000000049
theorem ce_p759 : rk_M 2 ce_m759 := ce_st (b1 := 2) (T := ce_m564) (rem := []) (rows := [0, 3, 4, 11, 9, 7, 12, 16, 14]) (cols := [5, 23, 26, 3, 6, 9, 11, 13, 14, 16, 18, 20, 25, 28]) (L := [(1, 2, [(4, 5, 0), (5, 12, 2)], [0, 3, 4, 11, 9, 7, 12, 16, 14], [9, 0, 24, 3, 6, 0, 11, 13, 14, 16, 18, 20, 0, 28], ce_m564), (2, 2, [], [0, 5, 6, 3, 11, 13, 8, 14, 17], [3, 0, 0, 7, 13, 11, 5, 17, 8, 21, 15, 23, 19, 24], ce_m646), (0, 2, [], [0, 3, 4, 11, 9, 7, 12, 16, 14], [0, 0, 0, 3, 6, 9, 11, 13, 14, 16, 18, 20, 25, 28], ce_m564)]) (by decide +kernel) ce_p564 (ce_pc ce_p564 (ce_pc ce_p646 (ce_pc ce_p564 ce_pn)))
def ce_m760 : Nat → Nat → Int := ce_F 9 14 0x948100020025004800100004a280008200041201001000281008008000240200040200440000041001040008000209
theorem ce_p760 : rk_M 2 ce_m760 := ce_st (b1 := 2) (T := ce_m654) (rem := [(1, 0, 1), (1, 9, 6)]) (rows := [0, 2, 4, 6, 13, 8, 11, 14, 16]) (cols := [0, 12, 2, 19, 10, 8, 4, 14, 6, 0, 16, 21, 24, 22]) (L := [(0, 2, [], [0, 12, 5, 3, 7, 9, 11, 15, 16], [0, 7, 11, 16, 3, 5, 18, 9, 25, 27, 15, 13, 21, 23], ce_m585), (9, 2, [(4, 4, 1), (5, 10, 3)], [0, 13, 4, 2, 6, 8, 10, 14, 17], [0, 2, 10, 15, 0, 4, 19, 8, 24, 0, 0, 12, 20, 22], ce_m585), (3, 2, [], [0, 2, 4, 6, 13, 8, 11, 14, 16], [0, 8, 2, 0, 12, 10, 4, 14, 6, 0, 16, 19, 22, 20], ce_m694), (1, 2, [], [0, 13, 4, 2, 6, 8, 10, 14, 17], [0, 0, 10, 0, 2, 4, 19, 8, 24, 0, 14, 12, 20, 22], ce_m585)]) (by decide +kernel) ce_p654 (ce_pc ce_p585 (ce_pc ce_p585 (ce_pc ce_p694 (ce_pc ce_p585 ce_pn))))
def ce_m761 : Nat → Nat → Int := ce_F 9 14 0xa28200020028a200000200412440040050401400001041201000001000241000009000408008008008040000040049
theorem ce_p761 : rk_M 2 ce_m761 := ce_st (b1 := 2) (T := ce_m601) (rem := [(1, 0, 1)]) (rows := [0, 3, 4, 6, 9, 10, 14, 17, 13]) (cols := [0, 18, 20, 3, 8, 10, 24, 5, 12, 14, 16, 7, 22, 27]) (L := [(0, 2, [], [0, 16, 5, 3, 7, 8, 14, 12, 10], [0, 17, 13, 14, 3, 5, 22, 21, 9, 11, 7, 25, 19, 26], ce_m585), (1, 2, [(5, 9, 6)], [0, 2, 7, 8, 12, 5, 11, 16, 14], [0, 0, 13, 4, 14, 8, 11, 6, 16, 0, 21, 2, 19, 22], ce_m695), (2, 2, [(5, 6, 5)], [0, 16, 5, 3, 7, 8, 14, 12, 10], [0, 0, 0, 14, 3, 5, 0, 21, 9, 11, 7, 25, 19, 26], ce_m585), (6, 2, [], [0, 16, 5, 3, 7, 8, 14, 12, 10], [0, 0, 0, 14, 3, 5, 0, 21, 9, 11, 7, 25, 19, 26], ce_m585)]) (by decide +kernel) ce_p601 (ce_pc ce_p585 (ce_pc ce_p695 (ce_pc ce_p585 (ce_pc ce_p585 ce_pn))))
def ce_m762 : Nat → Nat → Int := ce_F 9 14 0x1240028800000829000020908000120004220004800024001204004004104004024000004900000a009000000009009
theorem ce_p762 : rk_M 2 ce_m762 := ce_st (b1 := 2) (T := ce_m569) (rem := []) (rows := [0, 2, 4, 15, 8, 6, 10, 13, 16]) (cols := [12, 10, 2, 4, 21, 27, 9, 6, 16, 14, 18, 22, 24, 28]) (L := [(0, 2, [(2, 4, 2), (5, 8, 1), (5, 10, 4)], [0, 5, 13, 7, 0, 3, 9, 11, 14], [0, 12, 11, 3, 15, 18, 6, 17, 0, 9, 0, 23, 5, 25], ce_m414), (1, 2, [(2, 4, 2), (5, 11, 5)], [0, 3, 5, 6, 0, 14, 12, 11, 9], [0, 0, 3, 13, 6, 14, 4, 11, 8, 23, 17, 0, 18, 20], ce_m469), (5, 2, [(2, 4, 2), (4, 12, 4)], [0, 5, 13, 7, 0, 3, 9, 11, 14], [0, 0, 11, 3, 5, 0, 6, 17, 13, 9, 14, 23, 0, 25], ce_m414), (4, 2, [(2, 4, 2)], [0, 5, 13, 7, 0, 3, 9, 11, 14], [0, 0, 11, 3, 0, 0, 6, 17, 13, 9, 14, 23, 5, 25], ce_m414)]) (by decide +kernel) ce_p569 (ce_pc ce_p414 (ce_pc ce_p469 (ce_pc ce_p414 (ce_pc ce_p414 ce_pn))))
def ce_m763 : Nat → Nat → Int := ce_F 9 14 0x241000a040001249000048209000009410480001001200480008002080440000010408200000001048040000000049
theorem ce_p763 : rk_M 2 ce_m763 := ce_st (b1 := 2) (T := ce_m568) (rem := []) (rows := [0, 5, 3, 6, 9, 11, 16, 14, 13]) (cols := [19, 25, 27, 3, 7, 5, 11, 8, 13, 14, 17, 21, 23, 28]) (L := [(1, 2, [(3, 6, 5), (4, 6, 0), (5, 11, 2), (1, 13, 5)], [0, 5, 3, 8, 7, 11, 0, 12, 15], [13, 0, 17, 7, 11, 9, 0, 2, 14, 4, 20, 0, 22], ce_m479), (2, 2, [(3, 6, 5), (1, 13, 5)], [0, 2, 4, 8, 7, 11, 0, 12, 15], [4, 0, 0, 6, 8, 10, 2, 13, 14, 19, 20, 16, 22], ce_m479), (0, 2, [(3, 6, 5), (1, 13, 5)], [0, 5, 3, 8, 7, 11, 0, 12, 15], [0, 0, 0, 7, 11, 9, 13, 2, 14, 4, 20, 16, 22], ce_m479)]) (by decide +kernel) ce_p568 (ce_pc ce_p479 (ce_pc ce_p479 (ce_pc ce_p479 ce_pn)))
def ce_m764 : Nat → Nat → Int := ce_F 9 14 0x12012200200002482208001400488000050040041008208000088000008048200048000088000041001040000008209
theorem ce_p764 : rk_M 2 ce_m764 := ce_st (b1 := 2) (T := ce_m605) (rem := [(1, 0, 1)]) (rows := [0, 3, 4, 6, 10, 9, 12, 14, 16]) (cols := [0, 8, 3, 18, 11, 26, 5, 12, 7, 14, 16, 20, 23, 24]) (L := [(0, 2, [(5, 6, 5)], [0, 9, 4, 2, 10, 12, 7, 15, 16], [0, 2, 15, 16, 6, 10, 0, 4, 23, 18, 8, 12, 21, 24], ce_m655), (5, 2, [(4, 7, 3)], [0, 3, 6, 4, 8, 11, 13, 15, 16], [0, 4, 3, 10, 7, 0, 9, 0, 13, 16, 14, 20, 23, 18], ce_m701), (1, 2, [(5, 9, 3)], [0, 2, 7, 13, 5, 8, 15, 11, 17], [0, 0, 2, 16, 20, 0, 6, 29, 8, 0, 19, 15, 26, 11], ce_m550), (3, 2, [], [0, 2, 7, 13, 5, 8, 15, 11, 17], [0, 0, 2, 0, 20, 0, 6, 29, 8, 17, 19, 15, 26, 11], ce_m550)]) (by decide +kernel) ce_p605 (ce_pc ce_p655 (ce_pc ce_p701 (ce_pc ce_p550 (ce_pc ce_p550 ce_pn))))
def ce_m765 : Nat → Nat → Int := ce_F 9 14 0x1104a200000000288088010400011040090002008048201008008048009000200048088000000040041200000200209
theorem ce_p765 : rk_M 2 ce_m765 := ce_st (b1 := 2) (T := ce_m607) (rem := [(1, 0, 5)]) (rows := [0, 6, 5, 8, 15, 3, 10, 13, 16]) (cols := [0, 10, 6, 5, 12, 9, 2, 24, 16, 21, 23, 14, 18, 27]) (L := [(0, 2, [(3, 5, 3), (1, 3, 7)], [0, 5, 6, 13, 11, 0, 9, 2, 14], [0, 13, 9, 0, 3, 14, 11, 16, 5, 6, 18, 20, 25, 22], ce_m415), (3, 2, [(3, 5, 3), (4, 12, 7)], [0, 8, 5, 2, 10, 0, 15, 7, 13], [0, 4, 16, 0, 8, 21, 2, 12, 10, 7, 15, 18, 0, 22], ce_m483), (1, 2, [(3, 5, 3), (5, 8, 7)], [0, 4, 15, 6, 12, 0, 8, 3, 11], [0, 0, 8, 0, 2, 23, 18, 5, 0, 15, 25, 13, 10, 21], ce_m411), (7, 2, [(3, 5, 3)], [0, 4, 15, 6, 12, 0, 8, 3, 11], [0, 0, 8, 0, 2, 23, 18, 0, 4, 15, 25, 13, 10, 21], ce_m411)]) (by decide +kernel) ce_p607 (ce_pc ce_p415 (ce_pc ce_p483 (ce_pc ce_p411 (ce_pc ce_p411 ce_pn))))
def ce_m766 : Nat → Nat → Int := ce_F 9 14 0xa440400200012481001001090050000048048040008000450008000008241000208000408001040008040000040049
theorem ce_p766 : rk_M 2 ce_m766 := ce_st (b1 := 2) (T := ce_m603) (rem := [(1, 0, 1)]) (rows := [0, 3, 4, 6, 12, 9, 10, 16, 15]) (cols := [0, 8, 20, 3, 10, 12, 24, 14, 5, 16, 7, 18, 22, 27]) (L := [(0, 2, [], [0, 16, 5, 3, 8, 7, 10, 14, 12], [0, 9, 15, 16, 3, 5, 20, 7, 25, 11, 27, 13, 19, 22], ce_m590), (1, 2, [(5, 9, 6)], [0, 12, 10, 4, 7, 9, 3, 15, 16], [0, 0, 16, 23, 10, 2, 7, 14, 21, 0, 8, 25, 5, 27], ce_m586), (2, 2, [(5, 6, 5)], [0, 12, 10, 4, 7, 9, 3, 15, 16], [0, 0, 0, 23, 10, 2, 0, 14, 21, 6, 8, 25, 5, 27], ce_m586), (6, 2, [], [0, 12, 10, 4, 7, 9, 3, 15, 16], [0, 0, 0, 23, 10, 2, 0, 14, 21, 6, 8, 25, 5, 27], ce_m586)]) (by decide +kernel) ce_p603 (ce_pc ce_p590 (ce_pc ce_p586 (ce_pc ce_p586 (ce_pc ce_p586 ce_pn))))
def ce_m767 : Nat → Nat → Int := ce_F 9 14 0x11282200000280242200008008001440008200051001000010448001001041040001082008000008208040000000049
theorem ce_p767 : rk_M 2 ce_m767 := ce_st (b1 := 2) (T := ce_m570) (rem := []) (rows := [0, 2, 5, 6, 9, 11, 13, 14, 16]) (cols := [2, 5, 18, 6, 8, 10, 12, 14, 17, 21, 22, 25, 27, 29]) (L := [(0, 2, [(5, 3, 2)], [0, 2, 11, 4, 9, 7, 13, 14, 16], [0, 5, 3, 0, 6, 8, 10, 14, 23, 13, 16, 19, 21, 25], ce_m673), (1, 2, [(4, 4, 2)], [0, 2, 5, 6, 9, 11, 13, 14, 16], [0, 0, 8, 6, 0, 10, 12, 14, 17, 21, 22, 25, 27, 29], ce_m570), (2, 2, [], [0, 2, 5, 6, 9, 11, 13, 14, 16], [0, 0, 0, 6, 8, 10, 12, 14, 17, 21, 22, 25, 27, 29], ce_m570)]) (by decide +kernel) ce_p570 (ce_pc ce_p673 (ce_pc ce_p570 (ce_pc ce_p570 ce_pn)))
def ce_m768 : Nat → Nat → Int := ce_F 9 14 0x1240840100009204001100808000244804000900804000120804100900220000000a400008000000048040000000049
theorem ce_p768 : rk_M 2 ce_m768 := ce_st (b1 := 2) (T := ce_m572) (rem := []) (rows := [0, 3, 6, 4, 11, 9, 12, 14, 17]) (cols := [3, 16, 27, 5, 7, 11, 9, 13, 15, 18, 20, 22, 25, 28]) (L := [(1, 2, [(4, 8, 2)], [0, 2, 7, 8, 4, 12, 11, 15, 16], [2, 0, 10, 4, 6, 8, 14, 12, 0, 21, 16, 18, 22, 25], ce_m671), (0, 2, [(5, 3, 2)], [0, 2, 7, 5, 10, 8, 13, 15, 16], [0, 0, 5, 0, 6, 10, 8, 12, 14, 19, 21, 23, 24, 29], ce_m572), (2, 2, [], [0, 2, 7, 5, 10, 8, 13, 15, 16], [0, 0, 0, 4, 6, 10, 8, 12, 14, 19, 21, 23, 24, 29], ce_m572)]) (by decide +kernel) ce_p572 (ce_pc ce_p671 (ce_pc ce_p572 (ce_pc ce_p572 ce_pn)))
def ce_m769 : Nat → Nat → Int := ce_F 9 14 0x221100900008201121000800844040020005100200000a000440040000088200200008048001008040040000048009
theorem ce_p769 : rk_M 2 ce_m769 := ce_st (b1 := 2) (T := ce_m609) (rem := [(1, 0, 1)]) (rows := [0, 3, 6, 4, 9, 10, 12, 16, 15]) (cols := [0, 8, 10, 12, 3, 23, 26, 5, 15, 16, 7, 19, 20, 24]) (L := [(0, 2, [(5, 7, 6)], [0, 14, 4, 12, 8, 7, 3, 11, 16], [0, 12, 4, 6, 27, 14, 9, 0, 21, 11, 24, 16, 22, 3], ce_m592), (1, 2, [(5, 12, 5)], [0, 5, 3, 7, 9, 10, 16, 14, 13], [0, 0, 3, 14, 5, 16, 6, 13, 18, 21, 11, 9, 0, 22], ce_m706), (5, 2, [], [0, 7, 4, 8, 12, 14, 10, 2, 16], [0, 0, 12, 7, 21, 0, 15, 9, 27, 22, 3, 16, 11, 24], ce_m592), (6, 2, [], [0, 7, 4, 8, 12, 14, 10, 2, 16], [0, 0, 12, 7, 21, 0, 0, 9, 27, 22, 3, 16, 11, 24], ce_m592)]) (by decide +kernel) ce_p609 (ce_pc ce_p592 (ce_pc ce_p706 (ce_pc ce_p592 (ce_pc ce_p592 ce_pn))))
def ce_m770 : Nat → Nat → Int := ce_F 9 14 0x141220800008a002088010010082200200089001000040050040000240040041000009008008000009200000200241
theorem ce_p770 : rk_M 2 ce_m770 := ce_st (b1 := 2) (T := ce_m612) (rem := [(1, 0, 3)]) (rows := [0, 7, 5, 3, 8, 12, 10, 14, 16]) (cols := [0, 9, 11, 16, 3, 13, 15, 26, 7, 5, 19, 22, 21, 25]) (L := [(0, 2, [(5, 8, 7)], [0, 7, 5, 10, 13, 3, 8, 14, 17], [0, 5, 7, 18, 11, 15, 9, 13, 0, 23, 25, 27, 17, 3], ce_m594), (7, 2, [], [0, 9, 5, 3, 11, 6, 12, 14, 16], [0, 9, 17, 12, 3, 15, 11, 0, 5, 7, 21, 24, 23, 19], ce_m661), (2, 2, [(5, 6, 3)], [0, 2, 6, 5, 12, 8, 10, 14, 16], [0, 4, 0, 15, 7, 20, 0, 0, 9, 19, 28, 22, 24, 10], ce_m576), (3, 2, [], [0, 2, 6, 5, 12, 8, 10, 14, 16], [0, 4, 0, 0, 7, 20, 14, 0, 9, 19, 28, 22, 24, 10], ce_m576)]) (by decide +kernel) ce_p612 (ce_pc ce_p594 (ce_pc ce_p661 (ce_pc ce_p576 (ce_pc ce_p576 ce_pn))))
def ce_m771 : Nat → Nat → Int := ce_F 9 14 0x1240840100024808008020808000244804000900804000120804100900220000000a400008000000048040000000049
theorem ce_p771 : rk_M 2 ce_m771 := ce_st (b1 := 2) (T := ce_m571) (rem := []) (rows := [0, 3, 6, 4, 11, 9, 12, 16, 15]) (cols := [3, 22, 25, 5, 7, 11, 9, 13, 15, 18, 16, 20, 27, 28]) (L := [(2, 2, [(4, 3, 0), (5, 8, 1)], [0, 2, 7, 5, 10, 8, 13, 17, 14], [4, 15, 0, 0, 6, 10, 8, 12, 0, 19, 17, 21, 26, 29], ce_m571), (0, 2, [], [0, 3, 6, 9, 5, 13, 10, 14, 17], [0, 2, 0, 5, 7, 9, 17, 11, 13, 18, 15, 20, 25, 22], ce_m658), (1, 2, [], [0, 2, 7, 5, 10, 8, 13, 17, 14], [0, 0, 0, 4, 6, 10, 8, 12, 14, 19, 17, 21, 26, 29], ce_m571)]) (by decide +kernel) ce_p571 (ce_pc ce_p571 (ce_pc ce_p658 (ce_pc ce_p571 ce_pn)))
def ce_m772 : Nat → Nat → Int := ce_F 9 14 0x10401002440012400011202002408200040248000049000040009001011080000202001200000200208040000000049
theorem ce_p772 : rk_M 2 ce_m772 := ce_st (b1 := 2) (T := ce_m573) (rem := []) (rows := [0, 5, 3, 6, 11, 13, 9, 16, 14]) (cols := [11, 26, 28, 3, 5, 7, 8, 12, 14, 17, 19, 21, 22, 25]) (L := [(1, 2, [(4, 9, 0), (5, 13, 2)], [0, 4, 2, 7, 10, 12, 8, 17, 15], [16, 0, 25, 2, 4, 6, 9, 13, 15, 0, 18, 20, 23], ce_m573), (2, 2, [], [0, 7, 8, 5, 3, 15, 12, 10, 16], [5, 0, 0, 7, 8, 13, 3, 16, 21, 19, 11, 22, 15, 25], ce_m664), (0, 2, [], [0, 4, 2, 7, 10, 12, 8, 17, 15], [0, 0, 0, 2, 4, 6, 9, 13, 15, 16, 18, 20, 23, 24], ce_m573)]) (by decide +kernel) ce_p573 (ce_pc ce_p573 (ce_pc ce_p664 (ce_pc ce_p573 ce_pn)))
def ce_m773 : Nat → Nat → Int := ce_F 9 14 0x945000020008a081000002008409000200481008001001210040000240041000200200408000001009040040008009
theorem ce_p773 : rk_M 2 ce_m773 := ce_st (b1 := 2) (T := ce_m668) (rem := [(1, 0, 1), (1, 1, 2)]) (rows := [0, 2, 5, 6, 10, 8, 14, 12, 16]) (cols := [0, 0, 4, 2, 12, 19, 6, 9, 15, 17, 24, 11, 20, 22]) (L := [(0, 2, [], [0, 16, 5, 2, 9, 11, 6, 13, 15], [0, 17, 10, 14, 2, 20, 23, 5, 6, 8, 26, 13, 19, 25], ce_m592), (1, 2, [(5, 7, 5), (5, 11, 10)], [0, 12, 14, 5, 9, 6, 16, 2, 11], [0, 0, 13, 30, 11, 26, 4, 0, 3, 17, 7, 0, 9, 18], ce_m550), (5, 2, [(4, 12, 10)], [0, 12, 14, 5, 9, 6, 16, 2, 11], [0, 0, 13, 30, 11, 0, 4, 27, 3, 17, 9, 6, 0, 18], ce_m550), (10, 2, [], [0, 12, 14, 5, 9, 6, 16, 2, 11], [0, 0, 13, 30, 11, 0, 4, 27, 3, 17, 0, 6, 9, 18], ce_m550)]) (by decide +kernel) ce_p668 (ce_pc ce_p592 (ce_pc ce_p550 (ce_pc ce_p550 (ce_pc ce_p550 ce_pn))))
def ce_m774 : Nat → Nat → Int := ce_F 9 14 0x11480010040208440000200211200008040400081200240040009002040440000000288200000200048040000000049
theorem ce_p774 : rk_M 2 ce_m774 := ce_st (b1 := 2) (T := ce_m569) (rem := [(4, 12, 2)]) (rows := [0, 5, 12, 3, 14, 8, 7, 11, 17]) (cols := [13, 20, 26, 11, 3, 6, 17, 15, 5, 19, 8, 25, 0, 29]) (L := [(0, 2, [(5, 9, 1)], [0, 4, 2, 11, 9, 14, 6, 13, 16], [0, 13, 16, 2, 8, 18, 5, 6, 10, 0, 21, 15, 24, 23], ce_m680), (2, 2, [(4, 11, 1)], [0, 4, 13, 2, 15, 9, 6, 10, 16], [0, 24, 0, 10, 2, 7, 16, 14, 4, 18, 9, 0, 27, 28], ce_m569), (1, 2, [], [0, 4, 13, 2, 15, 9, 6, 10, 16], [0, 0, 0, 10, 2, 7, 16, 14, 4, 18, 9, 24, 27, 28], ce_m569)]) (by decide +kernel) ce_p569 (ce_pc ce_p680 (ce_pc ce_p569 (ce_pc ce_p569 ce_pn)))
end
section
/-! the certificate, 5: written by wip/whole/emit.py -/
def ce_m775 : Nat → Nat → Int := ce_F 9 14 0x12410008000042240008010001280040400402081009008010008009008001040009201000000001208040000000049
theorem ce_p775 : rk_M 2 ce_m775 := ce_st (b1 := 2) (T := ce_m573) (rem := [(1, 1, 4)]) (rows := [0, 7, 4, 10, 2, 9, 12, 16, 15]) (cols := [9, 0, 23, 18, 6, 5, 12, 10, 16, 2, 27, 24, 20, 14]) (L := [(1, 2, [], [0, 4, 2, 10, 14, 7, 8, 12, 17], [10, 0, 19, 14, 2, 16, 6, 4, 8, 12, 22, 24, 28, 20], ce_m564), (0, 2, [(5, 6, 2)], [0, 4, 2, 10, 14, 7, 8, 12, 17], [0, 0, 7, 14, 2, 16, 0, 4, 8, 12, 22, 24, 28, 20], ce_m564), (2, 2, [], [0, 4, 2, 10, 14, 7, 8, 12, 17], [0, 0, 0, 14, 2, 16, 6, 4, 8, 12, 22, 24, 28, 20], ce_m564)]) (by decide +kernel) ce_p573 (ce_pc ce_p564 (ce_pc ce_p564 (ce_pc ce_p564 ce_pn)))
def ce_m776 : Nat → Nat → Int := ce_F 9 14 0x12280011000051440000010011011000001011010048040000401000201201000001201040040000208200200001009
theorem ce_p776 : rk_M 2 ce_m776 := ce_st (b1 := 2) (T := ce_m614) (rem := [(1, 1, 1)]) (rows := [0, 3, 9, 7, 4, 10, 12, 15, 16]) (cols := [10, 0, 9, 3, 25, 5, 12, 15, 19, 17, 20, 26, 7, 22]) (L := [(1, 2, [(5, 3, 0), (5, 12, 11)], [0, 6, 10, 13, 3, 5, 16, 9, 14], [5, 0, 12, 0, 23, 20, 11, 2, 19, 16, 7, 15, 0, 9], ce_m707), (0, 2, [(5, 11, 10)], [0, 3, 11, 9, 6, 14, 16, 5, 12], [0, 0, 9, 5, 16, 7, 19, 21, 13, 10, 15, 0, 3, 23], ce_m704), (11, 2, [(4, 8, 4)], [0, 2, 8, 6, 5, 11, 13, 14, 17], [0, 0, 8, 2, 18, 4, 13, 14, 0, 16, 21, 0, 6, 23], ce_m614), (4, 2, [], [0, 2, 8, 6, 5, 11, 13, 14, 17], [0, 0, 8, 2, 0, 4, 13, 14, 18, 16, 21, 0, 6, 23], ce_m614)]) (by decide +kernel) ce_p614 (ce_pc ce_p707 (ce_pc ce_p704 (ce_pc ce_p614 (ce_pc ce_p614 ce_pn))))
def ce_m777 : Nat → Nat → Int := ce_F 9 14 0x909120000024000244000841001004004a002000040001248008001200040200000410440000082008040000000049
theorem ce_p777 : rk_M 2 ce_m777 := ce_st (b1 := 2) (T := ce_m577) (rem := []) (rows := [0, 3, 4, 6, 8, 13, 14, 11, 16]) (cols := [3, 8, 6, 5, 10, 15, 12, 19, 16, 23, 20, 25, 27, 28]) (L := [(0, 2, [], [0, 8, 3, 5, 10, 14, 13, 7, 16], [0, 11, 9, 2, 5, 6, 19, 12, 23, 15, 17, 24, 27, 21], ce_m594), (1, 2, [], [0, 3, 8, 5, 10, 13, 14, 7, 16], [0, 0, 10, 3, 5, 19, 6, 23, 12, 17, 15, 25, 21, 27], ce_m594), (2, 2, [], [0, 3, 4, 6, 8, 13, 14, 11, 16], [0, 0, 0, 5, 10, 15, 12, 19, 16, 23, 20, 25, 27, 28], ce_m577)]) (by decide +kernel) ce_p577 (ce_pc ce_p594 (ce_pc ce_p594 (ce_pc ce_p577 ce_pn)))
def ce_m778 : Nat → Nat → Int := ce_F 9 14 0x9080440000212040001010210009000240200408001200001200001200002200001009008000008009040000048009
theorem ce_p778 : rk_M 2 ce_m778 := ce_st (b1 := 2) (T := ce_m682) (rem := [(1, 0, 1), (1, 6, 8)]) (rows := [0, 2, 11, 7, 8, 14, 16, 12, 5]) (cols := [0, 9, 4, 6, 14, 23, 0, 2, 16, 19, 10, 20, 13, 25]) (L := [(0, 2, [(5, 7, 6)], [0, 10, 3, 7, 9, 16, 15, 12, 4], [0, 3, 4, 16, 9, 23, 13, 0, 14, 21, 7, 19, 10, 24], ce_m665), (6, 2, [], [0, 5, 3, 8, 11, 12, 15, 7, 16], [0, 13, 5, 7, 11, 15, 0, 17, 3, 22, 20, 18, 25, 27], ce_m597), (1, 2, [(5, 9, 5)], [0, 17, 2, 12, 6, 8, 10, 14, 4], [0, 0, 31, 18, 2, 26, 0, 11, 8, 0, 15, 20, 4, 17], ce_m553), (5, 2, [], [0, 17, 2, 12, 6, 8, 10, 14, 4], [0, 0, 31, 18, 2, 0, 0, 11, 8, 27, 15, 20, 4, 17], ce_m553)]) (by decide +kernel) ce_p682 (ce_pc ce_p665 (ce_pc ce_p597 (ce_pc ce_p553 (ce_pc ce_p553 ce_pn))))
def ce_m779 : Nat → Nat → Int := ce_F 9 14 0x901028000800924020004004000904100004a200008012001000002408008001000012008008001008040000000049
theorem ce_p779 : rk_M 2 ce_m779 := ce_st (b1 := 2) (T := ce_m553) (rem := [(1, 2, 6), (4, 12, 1)]) (rows := [0, 17, 3, 5, 10, 12, 6, 8, 15]) (cols := [18, 9, 0, 11, 2, 6, 31, 15, 27, 17, 4, 22, 0, 24]) (L := [(2, 2, [(4, 11, 0)], [0, 3, 11, 5, 13, 6, 8, 15, 16], [7, 21, 0, 3, 8, 10, 5, 19, 14, 16, 12, 0, 22, 25], ce_m679), (1, 2, [], [0, 2, 9, 4, 10, 13, 6, 14, 17], [8, 0, 0, 2, 4, 6, 10, 14, 17, 19, 13, 20, 23, 24], ce_m669), (0, 2, [], [0, 17, 3, 5, 10, 12, 6, 8, 15], [0, 0, 0, 11, 2, 6, 31, 15, 27, 17, 4, 22, 9, 24], ce_m553)]) (by decide +kernel) ce_p553 (ce_pc ce_p679 (ce_pc ce_p669 (ce_pc ce_p553 ce_pn)))
def ce_m780 : Nat → Nat → Int := ce_F 9 14 0xa402400008008409001001240000041080081200000081200200008009040008000011008000200208040000000049
theorem ce_p780 : rk_M 2 ce_m780 := ce_st (b1 := 2) (T := ce_m626) (rem := [(4, 13, 1)]) (rows := [0, 7, 2, 4, 10, 9, 16, 14, 12]) (cols := [19, 6, 26, 9, 2, 5, 10, 14, 12, 17, 21, 24, 22]) (L := [(0, 2, [(5, 9, 2)], [0, 7, 2, 4, 14, 9, 11, 12, 16], [0, 6, 14, 17, 2, 5, 8, 20, 22, 0, 19, 10, 12, 24], ce_m620), (1, 2, [], [0, 3, 6, 11, 5, 9, 12, 14, 16], [0, 0, 17, 3, 10, 5, 13, 15, 21, 7, 8, 19, 22, 24], ce_m683), (2, 2, [], [0, 7, 2, 4, 14, 9, 11, 12, 16], [0, 0, 0, 17, 2, 5, 8, 20, 22, 15, 19, 10, 12, 24], ce_m620)]) (by decide +kernel) ce_p626 (ce_pc ce_p620 (ce_pc ce_p683 (ce_pc ce_p620 ce_pn)))
def ce_m781 : Nat → Nat → Int := ce_F 9 14 0xa002200040090082001008048000048208009000000041009000000408048001000010208000041200040000000049
theorem ce_p781 : rk_M 2 ce_m781 := ce_st (b1 := 2) (T := ce_m631) (rem := [(1, 0, 1)]) (rows := [0, 2, 7, 10, 4, 8, 16, 13, 15]) (cols := [0, 17, 27, 11, 8, 2, 4, 12, 6, 21, 14, 18, 23, 24]) (L := [(0, 2, [], [0, 12, 6, 2, 4, 8, 15, 17, 10], [0, 16, 26, 4, 2, 8, 22, 6, 24, 11, 12, 14, 18, 20], ce_m618), (1, 2, [(5, 12, 2)], [0, 12, 6, 2, 4, 8, 15, 17, 10], [0, 0, 19, 4, 2, 8, 22, 6, 24, 11, 12, 14, 0, 20], ce_m618), (2, 2, [], [0, 12, 6, 2, 4, 8, 15, 17, 10], [0, 0, 0, 4, 2, 8, 22, 6, 24, 11, 12, 14, 18, 20], ce_m618)]) (by decide +kernel) ce_p631 (ce_pc ce_p618 (ce_pc ce_p618 (ce_pc ce_p618 ce_pn)))
def ce_m782 : Nat → Nat → Int := ce_F 9 14 0x1248000004008044200000000820900001000140800008a000040048010000200001001208201008000040000000049
theorem ce_p782 : rk_M 2 ce_m782 := ce_st (b1 := 2) (T := ce_m634) (rem := [(1, 0, 1)]) (rows := [0, 3, 11, 6, 8, 12, 5, 14, 16]) (cols := [0, 12, 26, 15, 9, 11, 16, 3, 21, 19, 5, 22, 24, 7]) (L := [(0, 2, [(5, 10, 2)], [0, 12, 6, 16, 3, 15, 9, 4, 11], [0, 23, 5, 12, 10, 15, 9, 20, 2, 7, 0, 24, 18, 16], ce_m691), (1, 2, [], [0, 3, 13, 6, 8, 10, 5, 14, 16], [0, 0, 21, 12, 11, 9, 14, 3, 19, 17, 5, 22, 24, 7], ce_m690), (2, 2, [], [0, 2, 10, 7, 5, 16, 14, 8, 13], [0, 0, 0, 28, 26, 30, 25, 4, 6, 9, 2, 18, 10, 14], ce_m555)]) (by decide +kernel) ce_p634 (ce_pc ce_p691 (ce_pc ce_p690 (ce_pc ce_p555 ce_pn)))
def ce_m783 : Nat → Nat → Int := ce_F 9 14 0xa28000220008a200000001001408000200400088000201040040001009000040008008081000000041200000000209
theorem ce_p783 : rk_M 2 ce_m783 := ce_st (b1 := 2) (T := ce_m555) (rem := [(1, 1, 1), (4, 13, 3)]) (rows := [0, 5, 15, 11, 9, 2, 16, 7, 12]) (cols := [27, 0, 9, 14, 3, 31, 23, 29, 25, 5, 13, 10, 19]) (L := [(1, 2, [(5, 4, 3)], [0, 5, 15, 8, 17, 2, 11, 7, 12], [8, 0, 17, 2, 0, 27, 24, 22, 29, 5, 11, 18, 13, 14], ce_m555), (0, 2, [], [0, 5, 15, 16, 9, 2, 11, 7, 12], [0, 0, 9, 20, 3, 27, 25, 28, 23, 5, 19, 10, 13, 14], ce_m555), (3, 2, [], [0, 5, 15, 16, 9, 2, 11, 7, 12], [0, 0, 9, 0, 3, 27, 25, 28, 23, 5, 19, 10, 13, 14], ce_m555)]) (by decide +kernel) ce_p555 (ce_pc ce_p555 (ce_pc ce_p555 (ce_pc ce_p555 ce_pn)))
def ce_m784 : Nat → Nat → Int := ce_F 9 14 0x1248000004000048a000002001011000010001208008050000008048200000040041400008000008048040000000049
theorem ce_p784 : rk_M 2 ce_m784 := ce_st (b1 := 2) (T := ce_m633) (rem := [(1, 2, 8)]) (rows := [0, 2, 15, 10, 9, 4, 6, 13, 16]) (cols := [8, 13, 0, 4, 2, 6, 10, 16, 20, 24, 27, 19, 22, 15]) (L := [(2, 2, [(4, 10, 1)], [0, 8, 5, 6, 3, 10, 17, 15, 12], [11, 3, 0, 22, 24, 28, 26, 8, 17, 4, 0, 13, 19, 15], ce_m555), (0, 2, [], [0, 4, 13, 11, 17, 2, 15, 7, 8], [0, 25, 0, 2, 12, 10, 4, 8, 16, 18, 23, 7, 21, 15], ce_m618), (1, 2, [], [0, 8, 5, 6, 3, 10, 17, 15, 12], [0, 0, 0, 22, 24, 28, 26, 8, 17, 4, 3, 13, 19, 15], ce_m555)]) (by decide +kernel) ce_p633 (ce_pc ce_p555 (ce_pc ce_p618 (ce_pc ce_p555 ce_pn)))
def ce_m785 : Nat → Nat → Int := ce_F 9 13 0x1240411000248088040080442401009010200041048001001042002009001040009040000251000000200049
theorem ce_p785 : rk_M 2 ce_m785 := ce_st (b1 := 2) (T := ce_m584) (rem := []) (rows := [0, 3, 5, 8, 6, 11, 16, 13, 14]) (cols := [11, 12, 15, 3, 4, 7, 9, 26, 17, 18, 21, 23, 25]) (L := [(0, 2, [(5, 9, 2), (5, 10, 7)], [0, 4, 2, 7, 10, 15, 13, 8, 17], [0, 3, 13, 4, 11, 6, 16, 15, 8, 0, 0, 18, 20], ce_m718), (1, 2, [(4, 8, 2), (5, 11, 7)], [0, 3, 5, 8, 6, 11, 16, 13, 14], [0, 0, 17, 3, 4, 7, 9, 22, 0, 18, 21, 0, 25], ce_m584), (7, 2, [], [0, 2, 7, 8, 5, 10, 12, 17, 15], [0, 0, 21, 7, 3, 12, 15, 0, 11, 9, 5, 17, 19], ce_m717), (2, 2, [], [0, 3, 5, 8, 6, 11, 16, 13, 14], [0, 0, 0, 3, 4, 7, 9, 0, 17, 18, 21, 23, 25], ce_m584)]) (by decide +kernel) ce_p584 (ce_pc ce_p718 (ce_pc ce_p584 (ce_pc ce_p717 (ce_pc ce_p584 ce_pn))))
def ce_m786 : Nat → Nat → Int := ce_F 9 13 0x208224100048204100020220100808200805100020204104000a001008240240008200000241200000201009
theorem ce_p786 : rk_M 2 ce_m786 := ce_st (b1 := 2) (T := ce_m641) (rem := [(1, 1, 2)]) (rows := [0, 2, 4, 10, 12, 6, 8, 14, 16]) (cols := [23, 0, 6, 4, 21, 2, 8, 24, 10, 12, 19, 17, 14]) (L := [(1, 2, [(5, 8, 4), (5, 9, 0), (5, 12, 7)], [0, 4, 11, 8, 17, 6, 15, 2, 12], [6, 0, 12, 8, 17, 2, 14, 4, 0, 0, 20, 11], ce_m639), (7, 2, [(4, 10, 0), (4, 11, 4)], [0, 4, 11, 8, 17, 6, 15, 2, 12], [20, 0, 12, 8, 11, 2, 14, 0, 16, 7, 0, 0, 5], ce_m639), (0, 2, [], [0, 2, 4, 10, 12, 6, 8, 17, 15], [0, 0, 4, 6, 21, 2, 10, 0, 12, 14, 19, 17, 8], ce_m716), (4, 2, [], [0, 4, 11, 8, 17, 6, 15, 2, 12], [0, 0, 12, 8, 0, 2, 14, 0, 16, 7, 20, 11, 5], ce_m639)]) (by decide +kernel) ce_p641 (ce_pc ce_p639 (ce_pc ce_p639 (ce_pc ce_p716 (ce_pc ce_p639 ce_pn))))
def ce_m787 : Nat → Nat → Int := ce_F 9 13 0x2088209000480212040040481001002080081200208009001008200411001040008240001240040000001241
theorem ce_p787 : rk_M 2 ce_m787 := ce_st (b1 := 2) (T := ce_m587) (rem := []) (rows := [0, 3, 5, 7, 9, 10, 13, 14, 17]) (cols := [11, 3, 12, 21, 22, 5, 7, 9, 15, 17, 19, 25, 27]) (L := [(0, 2, [(2, 3, 2), (3, 5, 4), (5, 10, 4), (5, 11, 3)], [0, 7, 4, 0, 9, 0, 10, 12, 3], [0, 6, 11, 22, 5, 13, 21, 3, 18, 9, 0, 0, 16], ce_m173), (2, 2, [(2, 3, 2), (3, 5, 4), (4, 8, 3), (4, 9, 4)], [0, 7, 4, 0, 9, 0, 10, 12, 3], [0, 6, 0, 18, 9, 13, 21, 3, 0, 0, 4, 23, 16], ce_m173), (3, 2, [(2, 3, 2), (3, 5, 4)], [0, 3, 5, 0, 8, 0, 7, 10, 12], [0, 5, 0, 0, 12, 11, 3, 15, 7, 8, 17, 19, 21], ce_m263), (4, 2, [(2, 3, 2), (3, 5, 4)], [0, 7, 4, 0, 9, 0, 10, 12, 3], [0, 6, 0, 0, 0, 13, 21, 3, 18, 9, 4, 23, 16], ce_m173)]) (by decide +kernel) ce_p587 (ce_pc ce_p173 (ce_pc ce_p173 (ce_pc ce_p263 (ce_pc ce_p173 ce_pn))))
def ce_m788 : Nat → Nat → Int := ce_F 9 13 0x2402211000411090040048401001001402001201041008001001200411000240008240001280040000001241
theorem ce_p788 : rk_M 2 ce_m788 := ce_st (b1 := 2) (T := ce_m586) (rem := []) (rows := [0, 3, 5, 7, 8, 12, 11, 14, 17]) (cols := [11, 3, 12, 19, 26, 4, 7, 9, 15, 17, 20, 23, 24]) (L := [(0, 2, [(2, 3, 2), (5, 8, 4), (5, 10, 3)], [0, 4, 2, 0, 8, 7, 13, 11, 14], [0, 4, 3, 7, 13, 19, 14, 8, 0, 16, 0, 23, 20], ce_m438), (4, 2, [(2, 3, 2), (4, 11, 2)], [0, 3, 5, 0, 8, 10, 7, 12, 15], [0, 7, 16, 19, 0, 8, 3, 5, 11, 13, 15, 0, 21], ce_m518), (2, 2, [(2, 3, 2), (4, 9, 3)], [0, 7, 14, 0, 9, 5, 3, 10, 12], [0, 21, 0, 8, 0, 15, 5, 16, 23, 0, 10, 3, 7], ce_m378), (3, 2, [(2, 3, 2)], [0, 7, 14, 0, 9, 5, 3, 10, 12], [0, 21, 0, 0, 0, 15, 5, 16, 23, 8, 10, 3, 7], ce_m378)]) (by decide +kernel) ce_p586 (ce_pc ce_p438 (ce_pc ce_p518 (ce_pc ce_p378 (ce_pc ce_p378 ce_pn))))
def ce_m789 : Nat → Nat → Int := ce_F 9 13 0x2448088000000011488290080048000490000209010400440050040400201240200200000209040000008049
theorem ce_p789 : rk_M 2 ce_m789 := ce_st (b1 := 2) (T := ce_m589) (rem := []) (rows := [0, 3, 5, 8, 10, 12, 7, 14, 16]) (cols := [22, 5, 24, 7, 3, 27, 9, 10, 13, 17, 15, 18, 20]) (L := [(1, 2, [(3, 5, 2), (3, 7, 1), (5, 6, 5)], [0, 2, 6, 11, 12, 0, 9, 0, 5], [3, 0, 13, 20, 16, 9, 0, 5, 6, 19, 23, 14, 10], ce_m187), (0, 2, [(3, 5, 2), (3, 7, 1), (5, 7, 2), (4, 10, 5)], [0, 12, 3, 6, 8, 0, 4, 0, 11], [0, 0, 11, 16, 18, 3, 24, 0, 5, 7, 0, 15, 13], ce_m156), (2, 2, [(3, 5, 2), (3, 7, 1), (4, 9, 5)], [0, 12, 3, 6, 8, 0, 4, 0, 11], [0, 0, 0, 16, 18, 7, 24, 10, 5, 0, 3, 15, 13], ce_m156), (5, 2, [(3, 5, 2), (3, 7, 1)], [0, 12, 3, 6, 8, 0, 4, 0, 11], [0, 0, 0, 16, 18, 0, 24, 10, 5, 7, 3, 15, 13], ce_m156)]) (by decide +kernel) ce_p589 (ce_pc ce_p187 (ce_pc ce_p156 (ce_pc ce_p156 (ce_pc ce_p156 ce_pn))))
def ce_m790 : Nat → Nat → Int := ce_F 9 13 0x2090248000440440240009000441000088202202210200010001400241041040001040000208240000208201
theorem ce_p790 : rk_M 2 ce_m790 := ce_st (b1 := 2) (T := ce_m639) (rem := [(1, 0, 2)]) (rows := [0, 2, 4, 10, 13, 6, 8, 14, 16]) (cols := [0, 4, 2, 19, 6, 23, 10, 25, 8, 17, 12, 20, 14]) (L := [(0, 2, [(5, 8, 3), (5, 10, 5), (5, 12, 7)], [0, 2, 14, 6, 17, 10, 8, 4, 12], [0, 10, 6, 8, 2, 21, 4, 14, 0, 16, 0, 12], ce_m639), (5, 2, [(4, 11, 7)], [0, 2, 6, 8, 5, 14, 10, 17, 13], [0, 4, 2, 20, 14, 0, 8, 11, 19, 16, 12, 0, 6], ce_m718), (3, 2, [(5, 9, 7)], [0, 2, 14, 6, 17, 10, 8, 4, 12], [0, 10, 6, 0, 2, 0, 4, 17, 9, 0, 20, 12, 15], ce_m639), (7, 2, [], [0, 2, 14, 6, 17, 10, 8, 4, 12], [0, 10, 6, 0, 2, 0, 4, 0, 9, 16, 20, 12, 15], ce_m639)]) (by decide +kernel) ce_p639 (ce_pc ce_p639 (ce_pc ce_p718 (ce_pc ce_p639 (ce_pc ce_p639 ce_pn))))
def ce_m791 : Nat → Nat → Int := ce_F 9 13 0x2480248000481040400002401240000240081200202080408040400209041040008040000209200000208009
theorem ce_p791 : rk_M 2 ce_m791 := ce_st (b1 := 2) (T := ce_m650) (rem := [(1, 0, 2)]) (rows := [0, 2, 4, 10, 7, 8, 12, 15, 16]) (cols := [0, 17, 4, 2, 8, 23, 10, 25, 6, 18, 12, 21, 14]) (L := [(0, 2, [(5, 8, 1), (5, 10, 5), (5, 12, 7)], [0, 4, 12, 8, 14, 17, 6, 3, 11], [0, 20, 12, 14, 2, 16, 8, 5, 0, 11, 0, 6], ce_m639), (1, 2, [(5, 11, 7)], [0, 6, 4, 10, 17, 12, 14, 3, 9], [0, 0, 12, 6, 2, 21, 19, 15, 10, 9, 16, 0, 4], ce_m718), (7, 2, [(5, 9, 5)], [0, 4, 12, 8, 14, 17, 6, 3, 11], [0, 0, 12, 14, 2, 10, 8, 0, 21, 0, 17, 6, 4], ce_m639), (5, 2, [], [0, 4, 12, 8, 14, 17, 6, 3, 11], [0, 0, 12, 14, 2, 0, 8, 0, 21, 11, 17, 6, 4], ce_m639)]) (by decide +kernel) ce_p650 (ce_pc ce_p639 (ce_pc ce_p718 (ce_pc ce_p639 (ce_pc ce_p639 ce_pn))))
def ce_m792 : Nat → Nat → Int := ce_F 9 13 0x104a001200288080008010441001001001088040200090408000048240001000041200040041008001000049
theorem ce_p792 : rk_M 2 ce_m792 := ce_st (b1 := 2) (T := ce_m663) (rem := [(1, 0, 1)]) (rows := [0, 2, 6, 4, 9, 11, 13, 15, 16]) (cols := [0, 15, 16, 2, 8, 4, 10, 12, 23, 6, 18, 21, 24]) (L := [(0, 2, [(5, 9, 8)], [0, 6, 5, 13, 10, 14, 3, 9, 16], [0, 9, 3, 16, 15, 18, 5, 20, 11, 0, 13, 6, 23], ce_m639), (8, 2, [(4, 10, 2)], [0, 10, 4, 2, 17, 14, 8, 7, 12], [0, 14, 8, 10, 2, 25, 6, 4, 0, 18, 0, 20, 22], ce_m638), (1, 2, [(5, 11, 2)], [0, 16, 4, 2, 11, 6, 14, 13, 8], [0, 0, 31, 8, 2, 25, 6, 4, 0, 26, 12, 0, 20], ce_m550), (2, 2, [], [0, 16, 4, 2, 11, 6, 14, 13, 8], [0, 0, 0, 8, 2, 25, 6, 4, 0, 26, 12, 30, 20], ce_m550)]) (by decide +kernel) ce_p663 (ce_pc ce_p639 (ce_pc ce_p638 (ce_pc ce_p550 (ce_pc ce_p550 ce_pn))))
def ce_m793 : Nat → Nat → Int := ce_F 9 13 0x1488000208408241000008490001008040208040202040048001048001000000209200208008008000000249
theorem ce_p793 : rk_M 2 ce_m793 := ce_st (b1 := 2) (T := ce_m657) (rem := [(1, 0, 1)]) (rows := [0, 3, 5, 7, 12, 9, 14, 11, 16]) (cols := [0, 9, 13, 21, 3, 11, 15, 17, 5, 19, 7, 24, 23]) (L := [(0, 2, [], [0, 14, 3, 5, 7, 9, 12, 11, 17], [0, 3, 11, 15, 23, 5, 7, 9, 16, 13, 24, 19, 21], ce_m642), (3, 2, [(0, 2, 5), (1, 5, 7), (4, 6, 1), (4, 11, 2)], [0, 15, 0, 2, 8, 6, 11, 13, 4], [0, 4, 9, 0, 18, 0, 0, 12, 22, 2, 15, 0, 6], ce_m360), (2, 2, [(0, 2, 5), (1, 5, 7), (4, 9, 1)], [0, 15, 0, 2, 8, 6, 11, 13, 4], [0, 2, 0, 0, 18, 0, 4, 12, 22, 0, 15, 9, 6], ce_m360), (1, 2, [(0, 2, 5), (1, 5, 7)], [0, 15, 0, 2, 8, 6, 11, 13, 4], [0, 0, 0, 0, 18, 0, 4, 12, 22, 2, 15, 9, 6], ce_m360)]) (by decide +kernel) ce_p657 (ce_pc ce_p642 (ce_pc ce_p360 (ce_pc ce_p360 (ce_pc ce_p360 ce_pn))))
def ce_m794 : Nat → Nat → Int := ce_F 9 13 0x409041000202480040082002401001201040041050000208008240001000000049200040240008000000249
theorem ce_p794 : rk_M 2 ce_m794 := ce_st (b1 := 2) (T := ce_m667) (rem := [(1, 0, 1)]) (rows := [0, 3, 4, 7, 14, 13, 8, 16, 11]) (cols := [0, 8, 10, 14, 13, 5, 3, 19, 17, 7, 21, 22, 25]) (L := [(0, 2, [], [0, 16, 3, 5, 9, 7, 14, 12, 11], [0, 3, 15, 13, 5, 23, 24, 7, 9, 20, 11, 17, 19], ce_m652), (2, 2, [(0, 2, 4), (1, 4, 8), (4, 10, 1), (4, 12, 3)], [0, 11, 0, 4, 12, 2, 15, 9, 7], [0, 14, 0, 23, 0, 18, 21, 6, 8, 13, 0, 4], ce_m381), (3, 2, [(0, 2, 4), (1, 4, 8), (4, 7, 1)], [0, 11, 0, 4, 12, 2, 15, 9, 7], [0, 6, 0, 0, 0, 18, 21, 0, 8, 13, 14, 4, 23], ce_m381), (1, 2, [(0, 2, 4), (1, 4, 8)], [0, 11, 0, 4, 12, 2, 15, 9, 7], [0, 0, 0, 0, 0, 18, 21, 6, 8, 13, 14, 4, 23], ce_m381)]) (by decide +kernel) ce_p667 (ce_pc ce_p652 (ce_pc ce_p381 (ce_pc ce_p381 (ce_pc ce_p381 ce_pn))))
def ce_m795 : Nat → Nat → Int := ce_F 9 13 0x204248004004124800024004044020000208224040200a000008010240000402048000001041008000000049
theorem ce_p795 : rk_M 2 ce_m795 := ce_st (b1 := 2) (T := ce_m608) (rem := []) (rows := [0, 7, 3, 5, 9, 10, 12, 14, 17]) (cols := [19, 22, 24, 3, 6, 5, 8, 11, 12, 14, 17, 20, 26]) (L := [(0, 2, [(3, 5, 1), (5, 7, 2)], [0, 7, 5, 3, 8, 0, 11, 14, 13], [0, 14, 16, 3, 5, 7, 8, 0, 13, 18, 11, 21, 23], ce_m477), (1, 2, [(3, 5, 1), (5, 12, 2)], [0, 3, 5, 9, 6, 0, 11, 12, 15], [0, 0, 24, 3, 5, 6, 12, 17, 15, 8, 23, 11], ce_m408), (2, 2, [(3, 5, 1)], [0, 3, 5, 9, 6, 0, 11, 12, 15], [0, 0, 0, 3, 5, 6, 12, 17, 15, 8, 23, 11, 25], ce_m408)]) (by decide +kernel) ce_p608 (ce_pc ce_p477 (ce_pc ce_p408 (ce_pc ce_p408 ce_pn)))
def ce_m796 : Nat → Nat → Int := ce_F 9 13 0x2288000240440280200040481000200410080240008200241040009040000410010200208008008000000049
theorem ce_p796 : rk_M 2 ce_m796 := ce_st (b1 := 2) (T := ce_m604) (rem := []) (rows := [0, 6, 5, 2, 8, 13, 10, 15, 16]) (cols := [8, 15, 24, 2, 10, 6, 4, 12, 16, 18, 23, 20, 27]) (L := [(0, 2, [(3, 4, 2), (5, 10, 2)], [0, 13, 10, 5, 0, 2, 6, 9, 14], [0, 6, 8, 17, 23, 5, 11, 12, 3, 21, 0, 15, 18], ce_m361), (1, 2, [(3, 4, 2), (4, 9, 2)], [0, 12, 11, 4, 0, 3, 7, 8, 15], [0, 0, 20, 16, 22, 4, 10, 13, 2, 0, 8, 14, 19], ce_m361), (2, 2, [(3, 4, 2)], [0, 12, 11, 4, 0, 3, 7, 8, 15], [0, 0, 0, 16, 22, 4, 10, 13, 2, 20, 8, 14, 19], ce_m361)]) (by decide +kernel) ce_p604 (ce_pc ce_p361 (ce_pc ce_p361 (ce_pc ce_p361 ce_pn)))
def ce_m797 : Nat → Nat → Int := ce_F 9 13 0x1280040009089200008001200201048001000248009440000400010240002000440201000041008000000049
theorem ce_p797 : rk_M 2 ce_m797 := ce_st (b1 := 2) (T := ce_m610) (rem := []) (rows := [0, 7, 5, 3, 8, 14, 10, 12, 16]) (cols := [19, 25, 26, 5, 3, 6, 8, 13, 10, 14, 16, 23, 20]) (L := [(1, 2, [(4, 5, 0), (4, 10, 2)], [0, 11, 2, 14, 16, 5, 7, 9, 12], [3, 0, 7, 25, 8, 0, 30, 11, 23, 19, 0, 27, 15], ce_m553), (2, 2, [(4, 11, 0)], [0, 11, 2, 14, 16, 5, 7, 9, 12], [27, 0, 0, 25, 8, 3, 30, 11, 23, 19, 7, 0, 15], ce_m553), (0, 2, [], [0, 11, 2, 14, 16, 5, 7, 9, 12], [0, 0, 0, 25, 8, 3, 30, 11, 23, 19, 7, 27, 15], ce_m553)]) (by decide +kernel) ce_p610 (ce_pc ce_p553 (ce_pc ce_p553 (ce_pc ce_p553 ce_pn)))
def ce_m798 : Nat → Nat → Int := ce_F 9 13 0x108148000804900900020000124104004a040001090001000010210040000002480201001001008000000049
theorem ce_p798 : rk_M 2 ce_m798 := ce_st (b1 := 2) (T := ce_m563) (rem := [(1, 2, 6)]) (rows := [0, 17, 7, 5, 8, 14, 2, 10, 13]) (cols := [12, 17, 0, 11, 4, 6, 2, 28, 15, 22, 8, 26, 19]) (L := [(2, 2, [(3, 6, 2), (4, 11, 0)], [0, 4, 8, 2, 10, 14, 0, 7, 12], [10, 22, 0, 4, 13, 19, 3, 26, 8, 21, 7, 0, 24], ce_m361), (1, 2, [(3, 6, 2)], [0, 9, 3, 5, 6, 10, 0, 12, 15], [12, 0, 0, 7, 2, 8, 4, 18, 11, 20, 14, 22, 25], ce_m397), (0, 2, [(3, 6, 2)], [0, 5, 9, 3, 11, 15, 0, 6, 13], [0, 0, 0, 5, 12, 18, 2, 27, 9, 20, 6, 11, 25], ce_m361)]) (by decide +kernel) ce_p563 (ce_pc ce_p361 (ce_pc ce_p397 (ce_pc ce_p361 ce_pn)))
def ce_m799 : Nat → Nat → Int := ce_F 9 13 0x1401200009048480008008201001040290008002002008200080011001000009040040001201008000000049
theorem ce_p799 : rk_M 2 ce_m799 := ce_st (b1 := 2) (T := ce_m575) (rem := []) (rows := [0, 5, 13, 7, 3, 9, 17, 11, 14]) (cols := [17, 23, 27, 3, 13, 5, 9, 15, 6, 24, 11, 18, 20]) (L := [(1, 2, [(4, 6, 0), (4, 11, 2)], [0, 4, 10, 7, 2, 8, 12, 16, 15], [4, 0, 16, 2, 10, 7, 0, 14, 9, 12, 24, 0, 19], ce_m558), (2, 2, [(4, 7, 0)], [0, 4, 10, 7, 2, 8, 12, 16, 15], [14, 0, 0, 2, 10, 7, 4, 0, 9, 12, 24, 16, 19], ce_m558), (0, 2, [], [0, 4, 10, 7, 2, 8, 12, 16, 15], [0, 0, 0, 2, 10, 7, 4, 14, 9, 12, 24, 16, 19], ce_m558)]) (by decide +kernel) ce_p575 (ce_pc ce_p558 (ce_pc ce_p558 (ce_pc ce_p558 ce_pn)))
def ce_m800 : Nat → Nat → Int := ce_F 9 13 0x2401410008042048008049000001040411040002001041000040048040000000488200040048008000000049
theorem ce_p800 : rk_M 2 ce_m800 := ce_st (b1 := 2) (T := ce_m620) (rem := []) (rows := [0, 7, 2, 4, 9, 11, 14, 12, 16]) (cols := [17, 24, 26, 2, 5, 7, 8, 10, 13, 15, 18, 20, 22]) (L := [(0, 2, [(5, 9, 2)], [0, 2, 5, 8, 14, 11, 12, 6, 16], [0, 19, 2, 11, 4, 17, 12, 15, 6, 0, 8, 20, 22], ce_m703), (1, 2, [], [0, 3, 4, 10, 7, 9, 13, 14, 16], [0, 0, 15, 8, 3, 5, 13, 17, 21, 7, 10, 18, 22], ce_m702), (2, 2, [], [0, 7, 2, 4, 9, 11, 14, 12, 16], [0, 0, 0, 2, 5, 7, 8, 10, 13, 15, 18, 20, 22], ce_m620)]) (by decide +kernel) ce_p620 (ce_pc ce_p703 (ce_pc ce_p702 (ce_pc ce_p620 ce_pn)))
def ce_m801 : Nat → Nat → Int := ce_F 9 13 0x240048800008a40000804a000400200201200208208201000000011240002012000200008041008000000049
theorem ce_p801 : rk_M 2 ce_m801 := ce_st (b1 := 2) (T := ce_m622) (rem := []) (rows := [0, 5, 9, 3, 7, 12, 14, 16, 11]) (cols := [13, 19, 26, 3, 5, 7, 8, 11, 15, 17, 22, 21, 24]) (L := [(0, 2, [(3, 5, 2), (5, 8, 2)], [0, 5, 10, 3, 7, 0, 8, 14, 13], [0, 6, 20, 3, 5, 11, 12, 15, 0, 23, 17, 19, 24], ce_m355), (1, 2, [(3, 5, 2), (4, 10, 2)], [0, 2, 10, 4, 14, 0, 13, 7, 8], [0, 0, 15, 2, 20, 10, 7, 17, 4, 22, 0, 18, 25], ce_m355), (2, 2, [(3, 5, 2)], [0, 2, 10, 4, 14, 0, 13, 7, 8], [0, 0, 0, 2, 20, 10, 7, 17, 4, 22, 15, 18, 25], ce_m355)]) (by decide +kernel) ce_p622 (ce_pc ce_p355 (ce_pc ce_p355 (ce_pc ce_p355 ce_pn)))
def ce_m802 : Nat → Nat → Int := ce_F 9 13 0x1401200009048008008240200001240450008002002008200080011001000009040040001201008000000049
theorem ce_p802 : rk_M 2 ce_m802 := ce_st (b1 := 2) (T := ce_m621) (rem := []) (rows := [0, 4, 6, 8, 2, 10, 14, 12, 16]) (cols := [10, 24, 26, 2, 6, 4, 8, 14, 13, 18, 17, 23, 21]) (L := [(2, 2, [(4, 7, 0), (5, 11, 1)], [0, 4, 10, 7, 2, 8, 17, 12, 15], [14, 17, 0, 2, 10, 7, 4, 0, 9, 18, 12, 0, 21], ce_m557), (1, 2, [(4, 6, 0)], [0, 4, 10, 7, 2, 8, 17, 12, 15], [4, 0, 0, 2, 10, 7, 0, 14, 9, 18, 12, 16, 21], ce_m557), (0, 2, [], [0, 4, 10, 7, 2, 8, 17, 12, 15], [0, 0, 0, 2, 10, 7, 4, 14, 9, 18, 12, 16, 21], ce_m557)]) (by decide +kernel) ce_p621 (ce_pc ce_p557 (ce_pc ce_p557 (ce_pc ce_p557 ce_pn)))
def ce_m803 : Nat → Nat → Int := ce_F 9 13 0x1011480040040201200202012001208002042000001081200002002408010280000200201200008000000049
theorem ce_p803 : rk_M 2 ce_m803 := ce_st (b1 := 2) (T := ce_m613) (rem := []) (rows := [0, 9, 11, 7, 2, 5, 14, 12, 16]) (cols := [17, 23, 25, 2, 4, 7, 9, 12, 10, 14, 19, 20, 27]) (L := [(0, 2, [(3, 6, 1), (1, 10, 1)], [0, 5, 10, 9, 2, 7, 0, 14, 12], [0, 10, 14, 4, 6, 19, 3, 9, 12, 21, 0, 25, 22], ce_m394), (1, 2, [(3, 6, 1), (5, 9, 2), (1, 10, 1)], [0, 7, 13, 11, 2, 15, 0, 4, 8], [0, 0, 27, 8, 2, 16, 5, 21, 6, 0, 0, 12, 22], ce_m349), (2, 2, [(3, 6, 1), (1, 10, 1)], [0, 7, 13, 11, 2, 15, 0, 4, 8], [0, 0, 0, 8, 2, 16, 5, 21, 6, 26, 0, 12, 22], ce_m349)]) (by decide +kernel) ce_p613 (ce_pc ce_p394 (ce_pc ce_p349 (ce_pc ce_p349 ce_pn)))
def ce_m804 : Nat → Nat → Int := ce_F 9 13 0x1252000040002480048012010040001010200010050008001200012008000248000200000248040000000248
theorem ce_p804 : rk_M 2 ce_m804 := ce_st (b1 := 2) (T := ce_m678) (rem := [(1, 3, 7)]) (rows := [0, 3, 5, 12, 7, 9, 11, 14, 16]) (cols := [3, 5, 22, 0, 7, 9, 11, 13, 15, 17, 19, 21, 24]) (L := [(3, 2, [(3, 7, 2), (4, 12, 2)], [0, 10, 9, 7, 2, 5, 12, 0, 14], [4, 12, 23, 0, 24, 2, 7, 15, 10, 9, 18, 21], ce_m425), (1, 2, [(3, 7, 2)], [0, 3, 7, 8, 5, 12, 11, 0, 14], [11, 0, 4, 0, 9, 3, 15, 13, 19, 6, 17, 22, 24], ce_m414), (2, 2, [(3, 7, 2)], [0, 3, 7, 8, 5, 12, 11, 0, 14], [11, 0, 0, 0, 9, 3, 15, 13, 19, 6, 17, 22, 24], ce_m414)]) (by decide +kernel) ce_p678 (ce_pc ce_p425 (ce_pc ce_p414 (ce_pc ce_p414 ce_pn)))
def ce_m805 : Nat → Nat → Int := ce_F 9 13 0x140940000044801000808008040120020a008000200208200001010408000001048208008040008000000049
theorem ce_p805 : rk_M 2 ce_m805 := ce_st (b1 := 2) (T := ce_m677) (rem := [(1, 0, 1)]) (rows := [0, 3, 9, 10, 5, 7, 12, 16, 15]) (cols := [0, 18, 24, 9, 11, 3, 15, 13, 5, 20, 17, 23, 7]) (L := [(0, 2, [(3, 6, 1)], [0, 14, 3, 6, 5, 9, 0, 10, 12], [0, 11, 20, 3, 5, 13, 7, 9, 23, 14, 17, 19, 25], ce_m430), (1, 2, [(3, 6, 1), (5, 6, 2)], [0, 6, 3, 8, 11, 5, 0, 13, 14], [0, 0, 14, 9, 3, 12, 0, 16, 7, 24, 11, 23, 18], ce_m414), (2, 2, [(3, 6, 1)], [0, 6, 3, 8, 11, 5, 0, 13, 14], [0, 0, 0, 9, 3, 12, 15, 16, 7, 24, 11, 23, 18], ce_m414)]) (by decide +kernel) ce_p677 (ce_pc ce_p430 (ce_pc ce_p414 (ce_pc ce_p414 ce_pn)))
def ce_m806 : Nat → Nat → Int := ce_F 9 13 0x480249000412040040050201000040090011000009010001048000009000009001000000048040000000209
theorem ce_p806 : rk_M 2 ce_m806 := ce_st (b1 := 2) (T := ce_m576) (rem := []) (rows := [0, 4, 6, 2, 9, 11, 13, 15, 16]) (cols := [13, 2, 4, 27, 18, 8, 20, 24, 11, 15, 22, 16, 29]) (L := [(0, 2, [(5, 9, 3)], [0, 4, 3, 7, 11, 9, 15, 13, 16], [0, 6, 5, 15, 8, 18, 23, 17, 10, 0, 21, 25, 28], ce_m576), (1, 2, [], [0, 4, 3, 7, 9, 11, 13, 15, 16], [0, 0, 5, 7, 18, 8, 17, 23, 11, 15, 25, 21, 29], ce_m576), (3, 2, [], [0, 4, 3, 7, 9, 11, 13, 15, 16], [0, 0, 5, 0, 18, 8, 17, 23, 11, 15, 25, 21, 29], ce_m576)]) (by decide +kernel) ce_p576 (ce_pc ce_p576 (ce_pc ce_p576 (ce_pc ce_p576 ce_pn)))
def ce_m807 : Nat → Nat → Int := ce_F 9 13 0x129001100020220000040a008000040012088001200040200009008001000048010200000041200000001048
theorem ce_p807 : rk_M 2 ce_m807 := ce_st (b1 := 2) (T := ce_m615) (rem := [(1, 2, 1)]) (rows := [0, 3, 4, 6, 11, 12, 8, 15, 16]) (cols := [16, 8, 0, 3, 26, 7, 15, 10, 18, 20, 12, 23, 25]) (L := [(2, 2, [(5, 5, 4)], [0, 3, 6, 8, 11, 4, 13, 15, 16], [15, 4, 0, 9, 6, 0, 12, 3, 11, 21, 23, 18, 16], ce_m711), (1, 2, [], [0, 3, 4, 8, 11, 12, 6, 15, 16], [14, 0, 0, 3, 11, 7, 17, 8, 18, 22, 13, 21, 25], ce_m672), (4, 2, [], [0, 9, 4, 3, 7, 11, 12, 14, 16], [24, 0, 0, 5, 0, 23, 3, 6, 14, 17, 13, 21, 27], ce_m598)]) (by decide +kernel) ce_p615 (ce_pc ce_p711 (ce_pc ce_p672 (ce_pc ce_p598 ce_pn)))
def ce_m808 : Nat → Nat → Int := ce_F 9 13 0x249000004000148800008040044000200104100120100000100940000100100a000200000209008000000049
theorem ce_p808 : rk_M 2 ce_m808 := ce_st (b1 := 2) (T := ce_m618) (rem := [(1, 2, 8)]) (rows := [0, 2, 9, 17, 6, 14, 4, 10, 12]) (cols := [4, 15, 0, 10, 2, 13, 6, 21, 18, 25, 23, 16, 9]) (L := [(2, 2, [(4, 10, 1)], [0, 8, 3, 10, 5, 13, 14, 6, 16], [12, 11, 0, 18, 20, 23, 2, 5, 7, 26, 0, 15, 17], ce_m593), (0, 2, [], [0, 4, 11, 17, 13, 2, 6, 14, 8], [0, 21, 0, 2, 4, 7, 12, 11, 19, 23, 17, 9, 15], ce_m710), (1, 2, [], [0, 10, 6, 2, 5, 8, 16, 12, 15], [0, 0, 0, 22, 28, 24, 12, 11, 3, 20, 4, 9, 17], ce_m555)]) (by decide +kernel) ce_p618 (ce_pc ce_p593 (ce_pc ce_p710 (ce_pc ce_p555 ce_pn)))
def ce_m809 : Nat → Nat → Int := ce_F 9 13 0x1290002200250200000040411000000090011000200208040008009000200240002040000008240000000209
theorem ce_p809 : rk_M 2 ce_m809 := ce_st (b1 := 2) (T := ce_m555) (rem := [(1, 1, 1)]) (rows := [0, 5, 15, 11, 9, 2, 17, 7, 12]) (cols := [27, 0, 9, 14, 3, 23, 29, 25, 5, 21, 13, 10, 18]) (L := [(1, 2, [(5, 4, 3)], [0, 3, 6, 8, 13, 11, 14, 4, 16], [2, 0, 5, 10, 0, 18, 20, 23, 6, 26, 12, 14, 16], ce_m593), (0, 2, [], [0, 3, 6, 12, 9, 11, 14, 4, 16], [0, 0, 3, 25, 11, 19, 22, 21, 6, 26, 15, 13, 16], ce_m593), (3, 2, [], [0, 5, 15, 11, 9, 2, 17, 7, 12], [0, 0, 9, 0, 3, 23, 29, 25, 5, 21, 13, 10, 18], ce_m555)]) (by decide +kernel) ce_p555 (ce_pc ce_p593 (ce_pc ce_p593 (ce_pc ce_p555 ce_pn)))
def ce_m810 : Nat → Nat → Int := ce_F 9 13 0x900024009004001001200000209101020000105000800044040020004140000020000124100000000120a
theorem ce_p810 : rk_M 2 ce_m810 := ce_st (b1 := 2) (T := ce_m720) (rem := [(1, 0, 6), (1, 1, 2), (1, 4, 3)]) (rows := [0, 16, 3, 5, 9, 11, 7, 13, 14]) (cols := [0, 0, 14, 6, 0, 20, 18, 16, 12, 4, 3, 11, 9]) (L := [(0, 2, [], [0, 2, 13, 15, 6, 4, 16, 8, 10], [0, 23, 21, 18, 25, 6, 2, 4, 9, 11, 15, 17, 13], ce_m680), (1, 2, [], [0, 2, 16, 13, 8, 6, 15, 4, 10], [0, 0, 9, 18, 23, 4, 6, 2, 11, 21, 16, 13, 14], ce_m680), (4, 2, [], [0, 16, 11, 8, 5, 2, 13, 7, 15], [0, 0, 12, 21, 0, 17, 14, 19, 9, 10, 7, 2, 5], ce_m673), (3, 2, [], [0, 16, 8, 11, 2, 5, 13, 7, 15], [0, 0, 12, 0, 0, 14, 17, 19, 10, 9, 2, 7, 4], ce_m673)]) (by decide +kernel) ce_p720 (ce_pc ce_p680 (ce_pc ce_p680 (ce_pc ce_p673 (ce_pc ce_p673 ce_pn))))
def ce_m811 : Nat → Nat → Int := ce_F 9 13 0x1240008008201088000008048000052400008000080040201002400440000240401000000048040000000248
theorem ce_p811 : rk_M 2 ce_m811 := ce_st (b1 := 2) (T := ce_m555) (rem := [(1, 2, 2)]) (rows := [0, 2, 5, 15, 11, 6, 9, 17, 12]) (cols := [23, 14, 0, 27, 4, 2, 29, 25, 9, 17, 12, 10, 18]) (L := [(2, 2, [(4, 5, 1)], [0, 3, 4, 10, 13, 9, 15, 17, 7], [5, 7, 0, 13, 9, 0, 3, 11, 20, 18, 23, 15, 17], ce_m712), (1, 2, [], [0, 11, 3, 6, 15, 5, 9, 13, 16], [21, 0, 0, 26, 7, 10, 23, 19, 3, 5, 16, 13, 14], ce_m593), (3, 2, [], [0, 2, 5, 15, 11, 6, 9, 17, 12], [23, 0, 0, 0, 4, 2, 29, 25, 9, 17, 12, 10, 18], ce_m555)]) (by decide +kernel) ce_p555 (ce_pc ce_p712 (ce_pc ce_p593 (ce_pc ce_p555 ce_pn)))
def ce_m812 : Nat → Nat → Int := ce_F 9 13 0x2010208000288000200050040001001040200040081002040000048240001000210200000009008000000049
theorem ce_p812 : rk_M 2 ce_m812 := ce_st (b1 := 2) (T := ce_m573) (rem := [(1, 0, 1), (4, 8, 2)]) (rows := [0, 3, 6, 15, 8, 11, 4, 12, 17]) (cols := [0, 8, 6, 5, 15, 19, 25, 29, 0, 26, 13, 11, 16]) (L := [(0, 2, [], [0, 12, 6, 4, 17, 15, 9, 11, 2], [0, 16, 23, 8, 24, 4, 12, 2, 15, 11, 18, 20, 7], ce_m618), (1, 2, [], [0, 3, 6, 5, 8, 15, 17, 11, 13], [0, 0, 23, 3, 5, 10, 9, 7, 12, 14, 16, 20, 19], ce_m713), (2, 2, [], [0, 14, 4, 16, 7, 10, 3, 9, 12], [0, 0, 0, 17, 20, 14, 24, 26, 3, 22, 6, 4, 9], ce_m564)]) (by decide +kernel) ce_p573 (ce_pc ce_p618 (ce_pc ce_p713 (ce_pc ce_p564 ce_pn)))
def ce_m813 : Nat → Nat → Int := ce_F 9 13 0x4a040000288001000008208040008009001000000052200440000010200000202040000008240000000209
theorem ce_p813 : rk_M 2 ce_m813 := ce_st (b1 := 2) (T := ce_m692) (rem := [(1, 1, 1)]) (rows := [0, 3, 4, 6, 8, 17, 11, 12, 14]) (cols := [6, 0, 3, 12, 5, 8, 10, 17, 21, 15, 18, 22, 25]) (L := [(1, 2, [(5, 2, 0)], [0, 6, 3, 5, 8, 12, 15, 11, 16], [7, 0, 0, 15, 12, 9, 4, 18, 23, 20, 17, 11, 2], ce_m715), (0, 2, [], [0, 3, 4, 6, 8, 15, 11, 12, 16], [0, 0, 3, 9, 5, 6, 10, 13, 19, 15, 16, 20, 23], ce_m714), (3, 2, [], [0, 2, 5, 7, 9, 16, 10, 13, 15], [0, 0, 2, 0, 4, 9, 11, 16, 20, 14, 19, 23, 24], ce_m692)]) (by decide +kernel) ce_p692 (ce_pc ce_p715 (ce_pc ce_p714 (ce_pc ce_p692 ce_pn)))
def ce_m814 : Nat → Nat → Int := ce_F 9 12 0x25004800140821100001200a040482000240009080408040241001009001009000041201000008049
theorem ce_p814 : rk_M 2 ce_m814 := ce_st (b1 := 2) (T := ce_m640) (rem := []) (rows := [0, 2, 10, 8, 5, 6, 13, 14, 16]) (cols := [8, 11, 12, 2, 4, 25, 6, 14, 17, 19, 21, 23]) (L := [(1, 2, [(3, 6, 2), (4, 6, 0), (5, 8, 2), (5, 9, 5)], [0, 4, 14, 2, 9, 10, 0, 6, 12], [10, 0, 16, 6, 8, 19, 0, 4, 0, 0, 12, 15], ce_m355), (2, 2, [(3, 6, 2), (4, 11, 5)], [0, 15, 6, 10, 4, 12, 0, 2, 9], [20, 0, 0, 11, 12, 7, 15, 4, 8, 2, 19], ce_m511), (5, 2, [(3, 6, 2), (4, 4, 0)], [0, 4, 14, 2, 9, 10, 0, 6, 12], [8, 0, 0, 6, 0, 0, 10, 4, 17, 18, 12, 15], ce_m355), (0, 2, [(3, 6, 2)], [0, 4, 14, 2, 9, 10, 0, 6, 12], [0, 0, 0, 6, 8, 0, 10, 4, 17, 18, 12, 15], ce_m355)]) (by decide +kernel) ce_p640 (ce_pc ce_p355 (ce_pc ce_p511 (ce_pc ce_p355 (ce_pc ce_p355 ce_pn))))
def ce_m815 : Nat → Nat → Int := ce_F 9 12 0x20921100028048024000248024004820040820808004800124100100000a408000001241000008049
theorem ce_p815 : rk_M 2 ce_m815 := ce_st (b1 := 2) (T := ce_m645) (rem := []) (rows := [0, 2, 5, 10, 13, 7, 8, 14, 16]) (cols := [6, 9, 10, 2, 4, 13, 15, 17, 21, 19, 23, 24]) (L := [(0, 2, [(3, 2, 1), (5, 5, 4), (5, 6, 2)], [0, 2, 0, 10, 5, 9, 6, 12, 14], [0, 3, 7, 4, 10, 0, 0, 19, 16, 13, 21, 15], ce_m440), (5, 2, [(3, 2, 1), (4, 9, 1)], [0, 4, 0, 8, 7, 3, 14, 12, 11], [0, 3, 12, 4, 6, 0, 9, 11, 19, 0, 15, 20], ce_m508), (1, 2, [(3, 2, 1), (4, 3, 2)], [0, 2, 0, 8, 4, 7, 12, 14, 10], [0, 0, 12, 0, 8, 0, 15, 17, 24, 11, 21, 22], ce_m354), (2, 2, [(3, 2, 1)], [0, 2, 0, 8, 4, 7, 12, 14, 10], [0, 0, 0, 12, 8, 0, 15, 17, 24, 11, 21, 22], ce_m354)]) (by decide +kernel) ce_p645 (ce_pc ce_p440 (ce_pc ce_p508 (ce_pc ce_p354 (ce_pc ce_p354 ce_pn))))
def ce_m816 : Nat → Nat → Int := ce_F 9 12 0x450440008289200001080290040081012008040049001200201201010010208000201041001040009
theorem ce_p816 : rk_M 2 ce_m816 := ce_st (b1 := 2) (T := ce_m644) (rem := []) (rows := [0, 2, 4, 6, 10, 13, 8, 14, 17]) (cols := [10, 14, 2, 4, 6, 9, 21, 12, 23, 17, 19, 24]) (L := [(8, 2, [(3, 5, 4), (3, 8, 7), (4, 4, 0), (5, 9, 1), (4, 10, 6)], [0, 4, 8, 6, 13, 0, 2, 10], [14, 20, 2, 10, 0, 7, 9, 4, 0, 0, 0, 18], ce_m155), (1, 2, [(3, 5, 4), (3, 8, 7), (4, 6, 5)], [0, 4, 10, 12, 7, 0, 2, 8], [20, 0, 2, 14, 18, 7, 0, 8, 0, 10, 5, 12], ce_m241), (6, 2, [(3, 5, 4), (3, 8, 7), (4, 7, 0)], [0, 4, 8, 6, 13, 0, 2, 10], [4, 0, 2, 10, 14, 7, 0, 0, 0, 21, 9, 18], ce_m155), (0, 2, [(3, 5, 4), (3, 8, 7)], [0, 4, 8, 6, 13, 0, 2, 10], [0, 0, 2, 10, 14, 7, 0, 4, 0, 21, 9, 18], ce_m155)]) (by decide +kernel) ce_p644 (ce_pc ce_p155 (ce_pc ce_p241 (ce_pc ce_p155 (ce_pc ce_p155 ce_pn))))
def ce_m817 : Nat → Nat → Int := ce_F 9 12 0x25101100001109100021040020808240004800a040440041201001000011440000008209000001049
theorem ce_p817 : rk_M 2 ce_m817 := ce_st (b1 := 2) (T := ce_m648) (rem := []) (rows := [0, 3, 4, 13, 6, 15, 9, 10, 16]) (cols := [7, 9, 10, 3, 12, 5, 14, 16, 19, 20, 23, 25]) (L := [(0, 2, [(3, 2, 1), (3, 5, 3), (5, 5, 4), (5, 7, 1)], [0, 11, 0, 3, 8, 0, 4, 13, 7], [0, 4, 8, 10, 21, 0, 22, 0, 13, 15, 3, 6], ce_m173), (1, 2, [(3, 2, 1), (3, 5, 3), (5, 3, 2)], [0, 4, 0, 6, 3, 0, 8, 10, 12], [0, 0, 3, 0, 7, 16, 9, 11, 4, 19, 12, 20], ce_m230), (2, 2, [(3, 2, 1), (3, 5, 3), (4, 8, 4)], [0, 10, 0, 5, 9, 0, 2, 12, 6], [0, 0, 0, 8, 15, 21, 23, 5, 0, 13, 7, 2], ce_m173), (4, 2, [(3, 2, 1), (3, 5, 3)], [0, 10, 0, 5, 9, 0, 2, 12, 6], [0, 0, 0, 8, 0, 21, 23, 5, 15, 13, 7, 2], ce_m173)]) (by decide +kernel) ce_p648 (ce_pc ce_p173 (ce_pc ce_p230 (ce_pc ce_p173 (ce_pc ce_p173 ce_pn))))
def ce_m818 : Nat → Nat → Int := ce_F 9 12 0x4a45000004a041200400281040400090440211008008000209200040001048008040201001000049
theorem ce_p818 : rk_M 2 ce_m818 := ce_st (b1 := 2) (T := ce_m693) (rem := [(1, 0, 1)]) (rows := [0, 2, 6, 4, 13, 9, 11, 14, 16]) (cols := [0, 10, 13, 2, 8, 14, 4, 16, 23, 6, 18, 20]) (L := [(0, 2, [(5, 9, 8)], [0, 8, 5, 7, 3, 14, 13, 17, 10], [0, 5, 17, 18, 7, 3, 20, 13, 15, 0, 11, 9], ce_m718), (1, 2, [(5, 10, 8), (5, 11, 2)], [0, 2, 6, 4, 13, 9, 11, 14, 16], [0, 0, 21, 2, 8, 14, 4, 16, 19, 6], ce_m693), (2, 2, [], [0, 5, 2, 8, 7, 10, 12, 14, 16], [0, 0, 0, 7, 4, 15, 11, 18, 3, 8, 12, 17], ce_m721), (8, 2, [], [0, 2, 6, 4, 13, 9, 11, 14, 16], [0, 0, 0, 2, 8, 14, 4, 16, 0, 6, 18, 20], ce_m693)]) (by decide +kernel) ce_p693 (ce_pc ce_p718 (ce_pc ce_p693 (ce_pc ce_p721 (ce_pc ce_p693 ce_pn))))
def ce_m819 : Nat → Nat → Int := ce_F 9 12 0x4a201200411040040440210040200409008200480408000049200040001048008200201001000049
theorem ce_p819 : rk_M 2 ce_m819 := ce_st (b1 := 2) (T := ce_m638) (rem := [(1, 0, 1)]) (rows := [0, 4, 10, 2, 15, 16, 9, 6, 12]) (cols := [0, 25, 16, 2, 10, 6, 4, 14, 23, 8, 18, 21]) (L := [(0, 2, [(5, 9, 8)], [0, 14, 7, 5, 8, 17, 11, 3, 13], [0, 18, 3, 17, 7, 11, 5, 21, 9, 0, 13, 14], ce_m718), (8, 2, [(4, 10, 2)], [0, 8, 11, 3, 14, 16, 7, 5, 12], [0, 18, 11, 13, 14, 6, 3, 21, 0, 8, 0, 4], ce_m717), (1, 2, [(5, 11, 2)], [0, 10, 8, 2, 13, 14, 7, 4, 16], [0, 0, 20, 8, 6, 4, 2, 24, 0, 17, 19], ce_m584), (2, 2, [], [0, 10, 8, 2, 13, 14, 7, 4, 16], [0, 0, 0, 8, 6, 4, 2, 24, 0, 17, 19, 21], ce_m584)]) (by decide +kernel) ce_p638 (ce_pc ce_p718 (ce_pc ce_p717 (ce_pc ce_p584 (ce_pc ce_p584 ce_pn))))
def ce_m820 : Nat → Nat → Int := ce_F 9 12 0x49001204004120900120a400008000402448240040009008089000082010200000201201000000049
theorem ce_p820 : rk_M 2 ce_m820 := ce_st (b1 := 2) (T := ce_m647) (rem := []) (rows := [0, 2, 4, 6, 10, 9, 13, 14, 17]) (cols := [12, 21, 25, 2, 4, 7, 9, 10, 15, 16, 19, 22]) (L := [(2, 2, [(3, 5, 1), (4, 11, 1)], [0, 2, 4, 7, 8, 0, 11, 12, 14], [14, 12, 0, 6, 18, 17, 4, 2, 9, 11, 21], ce_m515), (0, 2, [(3, 5, 1), (5, 7, 1)], [0, 7, 3, 4, 9, 0, 11, 12, 15], [0, 21, 0, 3, 14, 4, 7, 0, 8, 10, 12, 18], ce_m397), (1, 2, [(3, 5, 1)], [0, 7, 3, 4, 9, 0, 11, 12, 15], [0, 0, 0, 3, 14, 4, 7, 20, 8, 10, 12, 18], ce_m397)]) (by decide +kernel) ce_p647 (ce_pc ce_p515 (ce_pc ce_p397 (ce_pc ce_p397 ce_pn)))
def ce_m821 : Nat → Nat → Int := ce_F 9 12 0x242208000481080200212200040002002448240041001048008009000288200001001201000000049
theorem ce_p821 : rk_M 2 ce_m821 := ce_st (b1 := 2) (T := ce_m653) (rem := []) (rows := [0, 4, 2, 14, 11, 7, 16, 8, 12]) (cols := [12, 17, 19, 2, 10, 6, 5, 8, 14, 20, 23, 25]) (L := [(1, 2, [(3, 5, 1), (4, 4, 0), (5, 9, 2)], [0, 7, 10, 8, 3, 0, 5, 12, 15], [3, 0, 7, 20, 0, 19, 9, 11, 14, 0, 13, 5], ce_m397), (2, 2, [(3, 5, 1)], [0, 4, 2, 6, 12, 0, 15, 8, 10], [4, 0, 0, 2, 8, 6, 14, 13, 16, 10, 18, 21], ce_m516), (0, 2, [(3, 5, 1)], [0, 7, 10, 8, 3, 0, 5, 12, 15], [0, 0, 0, 20, 3, 19, 9, 11, 14, 6, 13, 5], ce_m397)]) (by decide +kernel) ce_p653 (ce_pc ce_p397 (ce_pc ce_p516 (ce_pc ce_p397 ce_pn)))
def ce_m822 : Nat → Nat → Int := ce_F 9 12 0x250040009089001040008009041200200049001441000400082200010012008040008201000000049
theorem ce_p822 : rk_M 2 ce_m822 := ce_st (b1 := 2) (T := ce_m659) (rem := []) (rows := [0, 5, 7, 3, 8, 15, 10, 12, 16]) (cols := [15, 23, 24, 3, 4, 7, 8, 13, 10, 16, 21, 18]) (L := [(1, 2, [(3, 6, 2), (4, 5, 0), (4, 9, 2)], [0, 15, 2, 8, 13, 7, 0, 5, 10], [9, 0, 3, 22, 7, 0, 26, 15, 13, 0, 16, 18], ce_m349), (2, 2, [(3, 6, 2), (4, 10, 0)], [0, 15, 2, 8, 13, 7, 0, 5, 10], [16, 0, 0, 22, 7, 9, 26, 15, 13, 3, 0, 18], ce_m349), (0, 2, [(3, 6, 2)], [0, 15, 2, 8, 13, 7, 0, 5, 10], [0, 0, 0, 22, 7, 9, 26, 15, 13, 3, 16, 18], ce_m349)]) (by decide +kernel) ce_p659 (ce_pc ce_p349 (ce_pc ce_p349 (ce_pc ce_p349 ce_pn)))
def ce_m823 : Nat → Nat → Int := ce_F 9 12 0x28120000904a40004004004804140208100000a080200080090008000209001000208201000000049
theorem ce_p823 : rk_M 2 ce_m823 := ce_st (b1 := 2) (T := ce_m591) (rem := []) (rows := [0, 7, 5, 13, 3, 9, 14, 11, 16]) (cols := [17, 27, 25, 3, 7, 15, 10, 13, 8, 5, 21, 22]) (L := [(1, 2, [(3, 6, 3), (4, 5, 0), (4, 10, 2)], [0, 15, 5, 10, 2, 6, 0, 8, 13], [11, 0, 20, 14, 5, 0, 7, 13, 9, 2, 0, 23], ce_m365), (2, 2, [(3, 6, 3), (4, 7, 0)], [0, 15, 5, 10, 2, 6, 0, 8, 13], [13, 0, 0, 14, 5, 11, 7, 0, 9, 2, 20, 23], ce_m365), (0, 2, [(3, 6, 3)], [0, 15, 5, 10, 2, 6, 0, 8, 13], [0, 0, 0, 14, 5, 11, 7, 13, 9, 2, 20, 23], ce_m365)]) (by decide +kernel) ce_p591 (ce_pc ce_p365 (ce_pc ce_p365 (ce_pc ce_p365 ce_pn)))
def ce_m824 : Nat → Nat → Int := ce_F 9 12 0x202088040008081240212008008280201008040008241008080050001240001000001208000008041
theorem ce_p824 : rk_M 2 ce_m824 := ce_st (b1 := 2) (T := ce_m670) (rem := []) (rows := [0, 2, 6, 5, 14, 8, 10, 12, 17]) (cols := [12, 2, 19, 6, 4, 24, 8, 10, 17, 15, 21, 22]) (L := [(0, 2, [(5, 6, 2), (5, 8, 5)], [0, 17, 7, 8, 3, 10, 12, 14, 4], [0, 21, 10, 15, 25, 6, 0, 17, 0, 18, 5, 8], ce_m652), (5, 2, [(4, 9, 2)], [0, 17, 7, 8, 3, 10, 12, 14, 4], [0, 21, 18, 15, 25, 0, 11, 17, 7, 0, 5, 8], ce_m652), (2, 2, [], [0, 17, 7, 8, 3, 10, 12, 14, 4], [0, 21, 0, 15, 25, 0, 11, 17, 7, 18, 5, 8], ce_m652)]) (by decide +kernel) ce_p670 (ce_pc ce_p652 (ce_pc ce_p652 (ce_pc ce_p652 ce_pn)))
def ce_m825 : Nat → Nat → Int := ce_F 9 12 0x290001240009400048200010248201041000009400400040240080048000009000000248000009001
theorem ce_p825 : rk_M 2 ce_m825 := ce_st (b1 := 2) (T := ce_m719) (rem := [(1, 0, 2), (1, 5, 6)]) (rows := [0, 2, 4, 9, 11, 12, 6, 14, 16]) (cols := [0, 2, 4, 6, 20, 0, 13, 15, 16, 8, 10, 18]) (L := [(0, 2, [], [0, 2, 14, 5, 7, 9, 10, 12, 16], [0, 6, 2, 4, 20, 23, 9, 11, 12, 14, 17, 18], ce_m697), (5, 2, [(4, 11, 4)], [0, 2, 14, 5, 7, 9, 10, 12, 16], [0, 6, 2, 4, 18, 0, 9, 11, 12, 14, 17], ce_m697), (4, 2, [], [0, 2, 14, 5, 7, 9, 10, 12, 16], [0, 6, 2, 4, 0, 0, 9, 11, 12, 14, 17, 18], ce_m697)]) (by decide +kernel) ce_p719 (ce_pc ce_p697 (ce_pc ce_p697 (ce_pc ce_p697 ce_pn)))
def ce_m826 : Nat → Nat → Int := ce_F 9 12 0x48809000804120900100828100020000920000100920008a000040080400208000048041000000009
theorem ce_p826 : rk_M 2 ce_m826 := ce_st (b1 := 2) (T := ce_m669) (rem := []) (rows := [0, 2, 10, 4, 6, 8, 13, 14, 17]) (cols := [20, 24, 2, 4, 6, 8, 10, 17, 13, 14, 19, 22]) (L := [(0, 2, [], [0, 6, 4, 11, 2, 8, 12, 14, 17], [0, 6, 8, 2, 10, 4, 16, 15, 12, 23, 19, 24], ce_m647), (1, 2, [], [0, 6, 4, 11, 2, 8, 12, 14, 17], [0, 0, 8, 2, 10, 4, 16, 15, 12, 23, 19, 24], ce_m647)]) (by decide +kernel) ce_p669 (ce_pc ce_p647 (ce_pc ce_p647 ce_pn))
def ce_m827 : Nat → Nat → Int := ce_F 9 12 0x250001440009240001082080200012011000200088040000488040050400008000001041000000209
theorem ce_p827 : rk_M 2 ce_m827 := ce_st (b1 := 2) (T := ce_m708) (rem := [(1, 1, 2)]) (rows := [0, 2, 4, 6, 8, 10, 13, 15, 16]) (cols := [12, 0, 2, 23, 8, 14, 17, 5, 19, 7, 10, 20]) (L := [(1, 2, [(5, 10, 3)], [0, 9, 13, 4, 6, 3, 11, 14, 17], [21, 0, 14, 23, 5, 2, 17, 19, 6, 8, 0, 26], ce_m586), (0, 2, [], [0, 8, 12, 5, 7, 2, 10, 15, 16], [0, 0, 15, 25, 4, 3, 16, 18, 7, 9, 23, 27], ce_m586), (3, 2, [], [0, 8, 12, 5, 7, 2, 10, 15, 16], [0, 0, 15, 0, 4, 3, 16, 18, 7, 9, 23, 27], ce_m586)]) (by decide +kernel) ce_p708 (ce_pc ce_p586 (ce_pc ce_p586 (ce_pc ce_p586 ce_pn)))
def ce_m828 : Nat → Nat → Int := ce_F 9 12 0x280440000051001000450000040008208008402002040000049200201000408000001201000000049
theorem ce_p828 : rk_M 2 ce_m828 := ce_st (b1 := 2) (T := ce_m713) (rem := [(1, 0, 1)]) (rows := [0, 3, 6, 5, 8, 13, 17, 11, 15]) (cols := [0, 10, 12, 3, 5, 7, 9, 15, 16, 18, 21, 22]) (L := [(0, 2, [], [0, 8, 13, 6, 17, 3, 11, 15, 4], [0, 9, 17, 14, 22, 6, 4, 3, 19, 10, 13, 20], ce_m710), (1, 2, [], [0, 4, 10, 6, 9, 15, 12, 2, 17], [0, 0, 23, 10, 2, 16, 18, 21, 4, 7, 8, 24], ce_m653), (2, 2, [], [0, 4, 3, 10, 16, 8, 12, 15, 7], [0, 0, 0, 2, 20, 14, 12, 8, 7, 18, 16, 5], ce_m614)]) (by decide +kernel) ce_p713 (ce_pc ce_p710 (ce_pc ce_p653 (ce_pc ce_p614 ce_pn)))
def ce_m829 : Nat → Nat → Int := ce_F 10 17 0x9440200080001082210080000082440010040011000048240000000240081000200000042040010000410001000240000040040000001040240000200000241
theorem ce_p829 : rk_M 2 ce_m829 := ce_st (b1 := 2) (T := ce_m723) (rem := [(1, 0, 2)]) (rows := [0, 7, 2, 8, 5, 11, 12, 15, 19, 16]) (cols := [0, 11, 9, 21, 2, 14, 13, 16, 18, 25, 23, 31, 6, 4, 28, 27, 32]) (L := [(0, 2, [(5, 12, 11)], [0, 2, 11, 4, 6, 9, 16, 14, 12, 19], [0, 2, 4, 13, 15, 8, 7, 20, 23, 11, 25, 26, 0, 29, 17, 18, 30], ce_m742), (2, 2, [], [0, 11, 2, 4, 9, 6, 12, 15, 17, 18], [0, 8, 0, 10, 2, 14, 13, 26, 16, 18, 20, 24, 4, 6, 22, 29, 31], ce_m737), (3, 2, [(5, 11, 9)], [0, 7, 2, 8, 5, 11, 12, 15, 19, 16], [0, 11, 0, 0, 2, 14, 13, 16, 18, 25, 23, 0, 6, 4, 28, 27, 32], ce_m723), (11, 2, [], [0, 7, 2, 8, 5, 11, 12, 15, 19, 16], [0, 11, 0, 0, 2, 14, 13, 16, 18, 25, 23, 0, 6, 4, 28, 27, 32], ce_m723)]) (by decide +kernel) ce_p723 (ce_pc ce_p742 (ce_pc ce_p737 (ce_pc ce_p723 (ce_pc ce_p723 ce_pn))))
def ce_m830 : Nat → Nat → Int := ce_F 10 16 0x50402400040012490000008480201041000480081011000208008280200202000208208041048000041000240048000000008001240000001200009
theorem ce_p830 : rk_M 2 ce_m830 := ce_st (b1 := 2) (T := ce_m729) (rem := [(1, 0, 3)]) (rows := [0, 2, 4, 6, 18, 14, 13, 16, 11, 8]) (cols := [0, 23, 2, 10, 8, 12, 14, 29, 27, 4, 6, 17, 18, 25, 20, 30]) (L := [(0, 2, [(5, 12, 1), (5, 14, 8)], [0, 5, 2, 16, 10, 19, 7, 9, 13, 15], [0, 22, 15, 12, 5, 2, 10, 26, 21, 17, 8, 6, 0, 24, 0, 18], ce_m788), (1, 2, [(4, 13, 7)], [0, 3, 4, 9, 11, 7, 18, 16, 14, 13], [0, 0, 5, 3, 17, 11, 8, 19, 26, 7, 12, 14, 20, 0, 25, 23], ce_m785), (7, 2, [(5, 15, 8)], [0, 2, 4, 6, 18, 14, 13, 16, 11, 8], [0, 0, 2, 10, 8, 12, 14, 0, 31, 4, 6, 17, 18, 25, 20], ce_m729), (8, 2, [], [0, 2, 4, 6, 18, 14, 13, 16, 11, 8], [0, 0, 2, 10, 8, 12, 14, 0, 0, 4, 6, 17, 18, 25, 20, 30], ce_m729)]) (by decide +kernel) ce_p729 (ce_pc ce_p788 (ce_pc ce_p785 (ce_pc ce_p729 (ce_pc ce_p729 ce_pn))))
def ce_m831 : Nat → Nat → Int := ce_F 10 16 0x411040440000051008040400401201010040240488000008040080012048008201200041001009001000000400400208000040048001000000000049
theorem ce_p831 : rk_M 2 ce_m831 := ce_st (b1 := 2) (T := ce_m722) (rem := []) (rows := [0, 2, 7, 4, 8, 13, 19, 16, 10, 14]) (cols := [2, 15, 28, 9, 6, 17, 10, 21, 12, 19, 22, 24, 26, 31, 33, 5]) (L := [(0, 2, [(5, 5, 2)], [0, 9, 4, 3, 13, 6, 14, 11, 17, 19], [0, 4, 18, 12, 3, 0, 27, 17, 7, 15, 21, 11, 9, 31, 24, 28], ce_m732), (1, 2, [(4, 11, 2)], [0, 4, 3, 6, 12, 11, 15, 18, 8, 16], [0, 0, 22, 3, 8, 19, 12, 17, 14, 21, 26, 0, 24, 29, 31, 5], ce_m722), (2, 2, [], [0, 4, 3, 6, 12, 11, 15, 18, 8, 16], [0, 0, 0, 3, 8, 19, 12, 17, 14, 21, 26, 22, 24, 29, 31, 5], ce_m722)]) (by decide +kernel) ce_p722 (ce_pc ce_p732 (ce_pc ce_p722 (ce_pc ce_p722 ce_pn)))
def ce_m832 : Nat → Nat → Int := ce_F 10 16 0x24024120000024001008a00009140040020000049008804004800008a00000100040a008000001201040000200040408000048000201000000008049
theorem ce_p832 : rk_M 2 ce_m832 := ce_st (b1 := 2) (T := ce_m736) (rem := [(1, 0, 1)]) (rows := [0, 3, 4, 6, 8, 11, 14, 13, 16, 19]) (cols := [0, 8, 16, 3, 10, 22, 12, 14, 18, 5, 7, 20, 25, 26, 28, 30]) (L := [(0, 2, [], [0, 12, 5, 2, 7, 9, 17, 19, 11, 14], [0, 5, 12, 14, 2, 19, 8, 6, 10, 28, 30, 17, 21, 23, 25, 27], ce_m731), (1, 2, [(5, 6, 5)], [0, 2, 5, 8, 7, 10, 13, 16, 15, 18], [0, 0, 8, 2, 10, 12, 0, 15, 22, 4, 6, 17, 20, 25, 19, 27], ce_m795), (2, 2, [(5, 5, 4)], [0, 13, 4, 3, 6, 8, 16, 18, 10, 15], [0, 0, 0, 15, 3, 0, 9, 7, 11, 29, 31, 16, 20, 22, 24, 26], ce_m731), (5, 2, [], [0, 13, 4, 3, 6, 8, 16, 18, 10, 15], [0, 0, 0, 15, 3, 0, 9, 7, 11, 29, 31, 16, 20, 22, 24, 26], ce_m731)]) (by decide +kernel) ce_p736 (ce_pc ce_p731 (ce_pc ce_p795 (ce_pc ce_p731 (ce_pc ce_p731 ce_pn))))
def ce_m833 : Nat → Nat → Int := ce_F 10 16 0x44840001004044048000204021201008000804200101004800904024000100020904000001008000a000000000481200001000008201000000000049
theorem ce_p833 : rk_M 2 ce_m833 := ce_st (b1 := 2) (T := ce_m742) (rem := [(4, 14, 2)]) (rows := [0, 5, 3, 6, 8, 16, 12, 19, 10, 14]) (cols := [23, 30, 26, 3, 5, 7, 8, 20, 10, 24, 15, 12, 17, 19, 0, 29]) (L := [(0, 2, [(5, 12, 1)], [0, 5, 3, 7, 8, 14, 12, 11, 18, 16], [0, 14, 18, 3, 9, 7, 4, 20, 12, 10, 22, 24, 0, 16, 28, 27], ce_m760), (1, 2, [(5, 15, 2)], [0, 5, 3, 6, 8, 16, 12, 19, 10, 14], [0, 0, 28, 3, 5, 7, 8, 20, 10, 24, 15, 12, 17, 19, 26], ce_m742), (2, 2, [], [0, 5, 3, 6, 8, 16, 12, 19, 10, 14], [0, 0, 0, 3, 5, 7, 8, 20, 10, 24, 15, 12, 17, 19, 26, 29], ce_m742)]) (by decide +kernel) ce_p742 (ce_pc ce_p760 (ce_pc ce_p742 (ce_pc ce_p742 ce_pn)))
def ce_m834 : Nat → Nat → Int := ce_F 10 16 0x48a200200000251040001000088012002200200010480040000081408040000240201000001000048200040008000088000001001041008000000209
theorem ce_p834 : rk_M 2 ce_m834 := ce_st (b1 := 2) (T := ce_m771) (rem := [(1, 0, 1), (1, 1, 2)]) (rows := [0, 3, 4, 9, 7, 11, 13, 14, 17, 19]) (cols := [0, 0, 3, 23, 5, 13, 14, 16, 7, 8, 18, 21, 25, 28, 10, 27]) (L := [(0, 2, [], [0, 12, 5, 3, 7, 10, 8, 17, 18, 15], [0, 17, 8, 21, 24, 6, 3, 11, 30, 14, 12, 19, 22, 5, 26, 28], ce_m733), (1, 2, [(5, 14, 13)], [0, 2, 13, 6, 4, 16, 18, 9, 10, 14], [0, 0, 16, 11, 4, 20, 22, 18, 12, 26, 14, 6, 8, 25, 0, 28], ce_m738), (3, 2, [(5, 13, 12)], [0, 14, 7, 2, 5, 8, 10, 19, 16, 13], [0, 0, 10, 0, 26, 2, 7, 9, 28, 12, 14, 17, 20, 0, 24, 30], ce_m733), (13, 2, [], [0, 14, 7, 2, 5, 8, 10, 19, 16, 13], [0, 0, 10, 0, 26, 2, 7, 9, 28, 12, 14, 17, 20, 0, 24, 30], ce_m733)]) (by decide +kernel) ce_p771 (ce_pc ce_p733 (ce_pc ce_p738 (ce_pc ce_p733 (ce_pc ce_p733 ce_pn))))
def ce_m835 : Nat → Nat → Int := ce_F 10 16 0x252440000000009081080200008210211000200001210040040000088088001001002040000200200408008000001201000040040041000008008009
theorem ce_p835 : rk_M 2 ce_m835 := ce_st (b1 := 2) (T := ce_m743) (rem := [(1, 9, 7)]) (rows := [0, 4, 2, 9, 7, 13, 14, 10, 16, 19]) (cols := [2, 11, 6, 8, 4, 27, 14, 13, 17, 0, 22, 19, 25, 20, 29, 30]) (L := [(9, 2, [], [0, 2, 6, 9, 4, 11, 12, 14, 16, 18], [2, 17, 4, 8, 7, 27, 10, 14, 12, 0, 18, 22, 20, 24, 29, 30], ce_m741), (0, 2, [], [0, 14, 9, 3, 4, 13, 11, 7, 16, 18], [0, 7, 9, 12, 5, 18, 20, 3, 15, 0, 28, 11, 16, 23, 27, 25], ce_m757), (1, 2, [(5, 7, 5)], [0, 2, 6, 9, 4, 11, 12, 14, 16, 18], [0, 0, 4, 8, 7, 15, 10, 0, 12, 0, 18, 22, 20, 24, 29, 30], ce_m741), (5, 2, [], [0, 2, 6, 9, 4, 11, 12, 14, 16, 18], [0, 0, 4, 8, 7, 0, 10, 14, 12, 0, 18, 22, 20, 24, 29, 30], ce_m741)]) (by decide +kernel) ce_p743 (ce_pc ce_p741 (ce_pc ce_p757 (ce_pc ce_p741 (ce_pc ce_p741 ce_pn))))
def ce_m836 : Nat → Nat → Int := ce_F 10 16 0x49120020000024009100100000a04800220020008048004000000a408040040000049000000201200200008040000088000008000241001000001009
theorem ce_p836 : rk_M 2 ce_m836 := ce_st (b1 := 2) (T := ce_m768) (rem := [(1, 0, 1), (1, 1, 2)]) (rows := [0, 2, 5, 6, 8, 10, 12, 14, 17, 18]) (cols := [0, 0, 2, 4, 22, 12, 15, 17, 19, 6, 9, 20, 29, 11, 24, 26]) (L := [(0, 2, [], [0, 14, 7, 5, 2, 8, 11, 19, 17, 13], [0, 17, 8, 21, 24, 2, 4, 7, 11, 28, 13, 15, 31, 23, 18, 27], ce_m734), (1, 2, [(5, 13, 12)], [0, 3, 6, 5, 8, 13, 15, 11, 18, 17], [0, 0, 5, 3, 8, 12, 14, 19, 23, 7, 21, 11, 16, 0, 24, 27], ce_m796), (12, 2, [(4, 14, 4)], [0, 14, 7, 5, 2, 8, 11, 19, 17, 13], [0, 0, 8, 21, 18, 2, 4, 7, 11, 28, 13, 15, 0, 23, 0, 27], ce_m734), (4, 2, [], [0, 14, 7, 5, 2, 8, 11, 19, 17, 13], [0, 0, 8, 21, 0, 2, 4, 7, 11, 28, 13, 15, 0, 23, 18, 27], ce_m734)]) (by decide +kernel) ce_p768 (ce_pc ce_p734 (ce_pc ce_p796 (ce_pc ce_p734 (ce_pc ce_p734 ce_pn))))
def ce_m837 : Nat → Nat → Int := ce_F 10 16 0x249010400000201281400000208010400200010000251000008040088040040002040088000040201040000208008008001001000041000000040209
theorem ce_p837 : rk_M 2 ce_m837 := ce_st (b1 := 2) (T := ce_m772) (rem := [(1, 0, 1), (1, 3, 7)]) (rows := [0, 2, 9, 4, 11, 12, 14, 7, 16, 18]) (cols := [0, 15, 2, 0, 12, 16, 27, 8, 4, 10, 20, 23, 6, 18, 29, 25]) (L := [(0, 2, [], [0, 14, 5, 2, 11, 9, 6, 13, 17, 19], [0, 13, 6, 25, 2, 5, 18, 8, 26, 15, 10, 17, 30, 21, 23, 29], ce_m735), (3, 2, [], [0, 2, 6, 4, 9, 10, 12, 18, 14, 16], [0, 15, 2, 0, 8, 10, 23, 16, 4, 20, 12, 18, 6, 24, 27, 28], ce_m759), (1, 2, [(5, 6, 5)], [0, 15, 4, 3, 10, 8, 7, 12, 16, 18], [0, 0, 7, 0, 3, 4, 0, 9, 27, 14, 11, 16, 31, 20, 22, 28], ce_m735), (6, 2, [], [0, 15, 4, 3, 10, 8, 7, 12, 16, 18], [0, 0, 7, 0, 3, 4, 0, 9, 27, 14, 11, 16, 31, 20, 22, 28], ce_m735)]) (by decide +kernel) ce_p772 (ce_pc ce_p735 (ce_pc ce_p759 (ce_pc ce_p735 (ce_pc ce_p735 ce_pn))))
def ce_m838 : Nat → Nat → Int := ce_F 10 16 0x481080081000410210010200000449000040002048200001000001402200040040010040008008080001200000048008001000001048000200000209
theorem ce_p838 : rk_M 2 ce_m838 := ce_st (b1 := 2) (T := ce_m724) (rem := []) (rows := [0, 3, 5, 10, 7, 8, 14, 13, 18, 17]) (cols := [16, 3, 5, 26, 7, 9, 11, 15, 12, 20, 19, 32, 23, 28, 25, 31]) (L := [(0, 2, [(5, 11, 9)], [0, 8, 11, 14, 6, 4, 16, 2, 13, 19], [0, 8, 4, 16, 11, 7, 21, 23, 2, 14, 12, 0, 26, 28, 24, 18], ce_m769), (1, 2, [], [0, 17, 18, 7, 5, 3, 10, 9, 14, 12], [0, 0, 11, 25, 18, 20, 22, 4, 3, 9, 7, 28, 27, 17, 15, 31], ce_m734), (3, 2, [(5, 11, 8)], [0, 2, 4, 11, 6, 9, 15, 12, 19, 16], [0, 0, 4, 0, 6, 8, 10, 14, 13, 21, 18, 0, 22, 29, 24, 30], ce_m724), (11, 2, [], [0, 2, 4, 11, 6, 9, 15, 12, 19, 16], [0, 0, 4, 0, 6, 8, 10, 14, 13, 21, 18, 0, 22, 29, 24, 30], ce_m724)]) (by decide +kernel) ce_p724 (ce_pc ce_p769 (ce_pc ce_p734 (ce_pc ce_p724 (ce_pc ce_p724 ce_pn))))
def ce_m839 : Nat → Nat → Int := ce_F 10 16 0x41041000048008209000048202288000000200000451000040000208040008000041040000080200410000010040012002002008200000402001001
theorem ce_p839 : rk_M 2 ce_m839 := ce_st (b1 := 2) (T := ce_m748) (rem := [(1, 0, 2)]) (rows := [0, 8, 3, 7, 5, 10, 13, 14, 16, 18]) (cols := [0, 4, 15, 8, 17, 12, 3, 10, 27, 6, 18, 30, 21, 23, 24, 29]) (L := [(0, 2, [(4, 6, 4), (4, 11, 9)], [0, 11, 6, 13, 2, 8, 4, 14, 16, 18], [0, 19, 6, 3, 4, 13, 0, 15, 21, 17, 24, 0, 22, 8, 26, 10], ce_m804), (4, 2, [], [0, 7, 2, 4, 12, 8, 18, 11, 15, 17], [0, 3, 19, 9, 0, 13, 6, 10, 21, 5, 15, 25, 17, 29, 23, 27], ce_m763), (11, 2, [(4, 12, 8)], [0, 8, 3, 7, 5, 10, 13, 14, 16, 18], [0, 4, 15, 8, 0, 12, 3, 10, 21, 6, 18, 0, 0, 23, 24, 29], ce_m748), (8, 2, [], [0, 8, 3, 7, 5, 10, 13, 14, 16, 18], [0, 4, 15, 8, 0, 12, 3, 10, 0, 6, 18, 0, 21, 23, 24, 29], ce_m748)]) (by decide +kernel) ce_p748 (ce_pc ce_p804 (ce_pc ce_p763 (ce_pc ce_p748 (ce_pc ce_p748 ce_pn))))
def ce_m840 : Nat → Nat → Int := ce_F 10 16 0x8940000220000844044000004200a008000201090000040200290000001000041041000000008208200002200000081040000001048008000000209
theorem ce_p840 : rk_M 2 ce_m840 := ce_st (b1 := 2) (T := ce_m747) (rem := [(1, 1, 1)]) (rows := [0, 3, 4, 8, 7, 16, 11, 13, 14, 18]) (cols := [8, 0, 3, 26, 5, 14, 13, 16, 11, 20, 18, 24, 23, 30, 7, 29]) (L := [(1, 2, [], [0, 18, 7, 4, 2, 13, 15, 10, 8, 16], [21, 0, 23, 26, 24, 6, 2, 10, 8, 14, 12, 17, 19, 28, 30, 5], ce_m740), (0, 2, [(5, 13, 11)], [0, 3, 6, 10, 5, 18, 15, 17, 9, 12], [0, 0, 5, 16, 3, 20, 9, 10, 19, 24, 13, 15, 22, 0, 7, 27], ce_m801), (3, 2, [(5, 13, 7)], [0, 18, 7, 3, 5, 14, 12, 9, 11, 16], [0, 0, 20, 0, 27, 3, 7, 9, 11, 13, 15, 18, 16, 0, 29, 4], ce_m740), (13, 2, [], [0, 18, 7, 3, 5, 14, 12, 9, 11, 16], [0, 0, 20, 0, 27, 3, 7, 9, 11, 13, 15, 18, 16, 0, 29, 4], ce_m740)]) (by decide +kernel) ce_p747 (ce_pc ce_p740 (ce_pc ce_p801 (ce_pc ce_p740 (ce_pc ce_p740 ce_pn))))
def ce_m841 : Nat → Nat → Int := ce_F 10 16 0x480490000200012248000008249000000040200202040000040041008000008080401000001400200001000010048200000008001009000000000248
theorem ce_p841 : rk_M 2 ce_m841 := ce_st (b1 := 2) (T := ce_m752) (rem := [(1, 2, 7)]) (rows := [0, 10, 13, 2, 6, 9, 5, 15, 16, 19]) (cols := [10, 28, 0, 31, 14, 17, 13, 2, 8, 6, 4, 26, 23, 19, 20, 24]) (L := [(2, 2, [], [0, 3, 4, 7, 11, 12, 8, 18, 15, 16], [3, 21, 0, 22, 11, 12, 8, 15, 17, 7, 5, 19, 28, 24, 27, 31], ce_m745), (1, 2, [(5, 9, 3)], [0, 11, 12, 3, 6, 9, 4, 19, 14, 17], [11, 0, 0, 5, 14, 17, 12, 3, 9, 0, 18, 6, 21, 29, 30, 22], ce_m745), (3, 2, [], [0, 11, 12, 3, 6, 9, 4, 19, 14, 17], [11, 0, 0, 0, 14, 17, 12, 3, 9, 4, 18, 6, 21, 29, 30, 22], ce_m745)]) (by decide +kernel) ce_p752 (ce_pc ce_p745 (ce_pc ce_p745 (ce_pc ce_p745 ce_pn)))
def ce_m842 : Nat → Nat → Int := ce_F 10 16 0x488400001000481400000200088042040000401008408000011000002200000200048008200040010040040008080001000001001048000000200209
theorem ce_p842 : rk_M 2 ce_m842 := ce_st (b1 := 2) (T := ce_m781) (rem := [(1, 0, 2), (1, 7, 6)]) (rows := [0, 8, 3, 10, 6, 13, 5, 14, 16, 18]) (cols := [0, 8, 10, 25, 16, 13, 4, 0, 21, 3, 22, 26, 15, 28, 7, 18]) (L := [(0, 2, [(5, 9, 7)], [0, 5, 16, 3, 8, 10, 6, 19, 14, 13], [0, 7, 3, 24, 9, 4, 22, 19, 17, 0, 15, 20, 10, 27, 28, 13], ce_m778), (7, 2, [(4, 12, 3)], [0, 19, 4, 3, 16, 6, 10, 9, 14, 13], [0, 30, 23, 8, 19, 14, 17, 0, 28, 4, 3, 26, 0, 7, 12, 11], ce_m739), (1, 2, [], [0, 18, 5, 2, 17, 7, 11, 8, 15, 12], [0, 0, 22, 21, 18, 15, 16, 0, 29, 5, 2, 27, 9, 6, 13, 10], ce_m739), (3, 2, [], [0, 18, 5, 2, 17, 7, 11, 8, 15, 12], [0, 0, 22, 0, 18, 15, 16, 0, 29, 5, 2, 27, 9, 6, 13, 10], ce_m739)]) (by decide +kernel) ce_p781 (ce_pc ce_p778 (ce_pc ce_p739 (ce_pc ce_p739 (ce_pc ce_p739 ce_pn))))
def ce_m843 : Nat → Nat → Int := ce_F 10 16 0x51488000000280200440000211002008000000088002001000008440008000042008008041000001200008200000201000001041040000000208041
theorem ce_p843 : rk_M 2 ce_m843 := ce_st (b1 := 2) (T := ce_m754) (rem := [(1, 2, 1)]) (rows := [0, 3, 12, 7, 8, 11, 4, 14, 17, 18]) (cols := [8, 12, 0, 11, 5, 18, 7, 20, 3, 14, 17, 26, 25, 28, 23, 30]) (L := [(2, 2, [(5, 7, 6), (5, 8, 5)], [0, 6, 15, 16, 3, 5, 12, 9, 11, 18], [17, 7, 0, 3, 18, 5, 9, 0, 0, 13, 11, 25, 21, 22, 26, 15], ce_m807), (0, 2, [], [0, 3, 17, 9, 4, 7, 10, 12, 15, 18], [0, 8, 0, 11, 5, 15, 7, 13, 3, 16, 19, 29, 23, 27, 21, 24], ce_m777), (5, 2, [], [0, 3, 7, 9, 10, 13, 4, 14, 17, 18], [0, 18, 0, 7, 5, 0, 9, 21, 3, 10, 13, 17, 25, 15, 23, 26], ce_m806), (7, 2, [], [0, 3, 12, 7, 8, 11, 4, 14, 17, 18], [0, 12, 0, 11, 5, 0, 7, 0, 3, 14, 17, 26, 25, 28, 23, 30], ce_m754)]) (by decide +kernel) ce_p754 (ce_pc ce_p807 (ce_pc ce_p777 (ce_pc ce_p806 (ce_pc ce_p754 ce_pn))))
def ce_m844 : Nat → Nat → Int := ce_F 10 16 0x24049000020000924800000800000124804020008004200004040000900000820100000200104020000100001009020000000a400008000000000248
theorem ce_p844 : rk_M 2 ce_m844 := ce_st (b1 := 2) (T := ce_m753) (rem := [(1, 2, 7)]) (rows := [0, 12, 15, 3, 7, 8, 4, 11, 16, 19]) (cols := [3, 28, 0, 31, 9, 16, 12, 11, 15, 6, 18, 4, 24, 20, 23, 27]) (L := [(2, 2, [], [0, 11, 12, 2, 6, 9, 5, 14, 17, 18], [2, 29, 0, 30, 8, 17, 13, 10, 14, 7, 19, 5, 25, 21, 22, 26], ce_m744), (1, 2, [(5, 9, 3)], [0, 10, 13, 3, 7, 8, 4, 15, 16, 19], [3, 0, 0, 7, 9, 16, 12, 11, 15, 0, 18, 4, 24, 20, 23, 27], ce_m744), (3, 2, [], [0, 10, 13, 3, 7, 8, 4, 15, 16, 19], [3, 0, 0, 0, 9, 16, 12, 11, 15, 6, 18, 4, 24, 20, 23, 27], ce_m744)]) (by decide +kernel) ce_p753 (ce_pc ce_p744 (ce_pc ce_p744 (ce_pc ce_p744 ce_pn)))
def ce_m845 : Nat → Nat → Int := ce_F 10 16 0x45144000000020820000020004104000020000000800024800040a002000000088400002010001080008002000210008400000041040080000008041
theorem ce_p845 : rk_M 2 ce_m845 := ce_st (b1 := 2) (T := ce_m783) (rem := [(1, 0, 4), (1, 5, 2)]) (rows := [0, 15, 3, 9, 4, 10, 7, 12, 17, 18]) (cols := [0, 3, 13, 21, 19, 0, 16, 5, 15, 6, 11, 25, 8, 22, 28, 26]) (L := [(0, 2, [(5, 7, 5), (4, 14, 10)], [0, 14, 3, 11, 6, 16, 9, 4, 12, 18], [0, 9, 18, 10, 16, 6, 2, 0, 15, 20, 12, 27, 4, 23, 0, 25], ce_m811), (5, 2, [(4, 14, 12)], [0, 14, 6, 16, 3, 11, 9, 4, 12, 18], [0, 20, 18, 10, 2, 0, 16, 6, 14, 9, 4, 23, 12, 27, 0, 25], ce_m811), (2, 2, [], [0, 14, 3, 9, 4, 10, 7, 12, 17, 18], [0, 3, 0, 19, 17, 0, 14, 5, 13, 6, 11, 25, 8, 22, 21, 27], ce_m809), (14, 2, [], [0, 15, 3, 9, 4, 10, 7, 12, 17, 18], [0, 3, 0, 21, 19, 0, 16, 5, 15, 6, 11, 25, 8, 22, 0, 26], ce_m783)]) (by decide +kernel) ce_p783 (ce_pc ce_p811 (ce_pc ce_p811 (ce_pc ce_p809 (ce_pc ce_p783 ce_pn))))
def ce_m846 : Nat → Nat → Int := ce_F 10 16 0x41140001100004a200000401208088000000090002200000002040048000000408041000001001000208000200200009000000008240000000001041
theorem ce_p846 : rk_M 2 ce_m846 := ce_st (b1 := 2) (T := ce_m756) (rem := [(1, 2, 1)]) (rows := [0, 3, 9, 5, 12, 6, 10, 15, 16, 19]) (cols := [26, 3, 0, 5, 31, 8, 12, 17, 11, 18, 14, 22, 7, 20, 24, 28]) (L := [(2, 2, [], [0, 15, 3, 6, 4, 9, 11, 12, 16, 19], [22, 3, 0, 19, 25, 20, 8, 11, 14, 12, 17, 26, 5, 6, 28, 30], ce_m752), (0, 2, [(5, 11, 4)], [0, 15, 7, 2, 8, 5, 11, 12, 16, 19], [0, 2, 0, 23, 5, 24, 9, 15, 10, 16, 13, 0, 27, 6, 28, 30], ce_m752), (4, 2, [], [0, 15, 7, 2, 8, 5, 11, 12, 16, 19], [0, 2, 0, 23, 0, 24, 9, 15, 10, 16, 13, 4, 27, 6, 28, 30], ce_m752)]) (by decide +kernel) ce_p756 (ce_pc ce_p752 (ce_pc ce_p752 (ce_pc ce_p752 ce_pn)))
def ce_m847 : Nat → Nat → Int := ce_F 10 16 0x212200000040042080000048000491000000280010040000002200401000000008210200008002040008001040008001000001001201000000000049
theorem ce_p847 : rk_M 2 ce_m847 := ce_st (b1 := 2) (T := ce_m726) (rem := []) (rows := [0, 2, 8, 11, 4, 6, 13, 14, 16, 19]) (cols := [8, 27, 32, 6, 2, 11, 15, 12, 4, 16, 19, 21, 23, 25, 28, 31]) (L := [(0, 2, [], [0, 12, 16, 8, 3, 6, 4, 10, 19, 15], [0, 28, 31, 13, 20, 16, 6, 3, 8, 5, 25, 11, 27, 22, 19, 14], ce_m751), (1, 2, [(5, 13, 2)], [0, 4, 9, 13, 2, 7, 11, 15, 17, 18], [0, 0, 30, 6, 12, 9, 15, 2, 16, 4, 18, 20, 22, 0, 26, 25], ce_m726), (2, 2, [], [0, 4, 9, 13, 2, 7, 11, 15, 17, 18], [0, 0, 0, 6, 12, 9, 15, 2, 16, 4, 18, 20, 22, 31, 26, 25], ce_m726)]) (by decide +kernel) ce_p726 (ce_pc ce_p751 (ce_pc ce_p726 (ce_pc ce_p726 ce_pn)))
def ce_m848 : Nat → Nat → Int := ce_F 10 16 0x291200000000200090000041000411080000002080240000001200002200040000410040008002008001000048001008000001200208000000000049
theorem ce_p848 : rk_M 2 ce_m848 := ce_st (b1 := 2) (T := ce_m725) (rem := []) (rows := [0, 3, 5, 12, 14, 6, 11, 9, 16, 18]) (cols := [24, 5, 26, 8, 7, 10, 2, 15, 13, 19, 17, 20, 22, 31, 29, 32]) (L := [(0, 2, [(5, 5, 2)], [0, 15, 16, 6, 9, 10, 4, 3, 19, 12], [0, 27, 7, 19, 21, 0, 4, 8, 3, 22, 25, 10, 13, 14, 17, 30], ce_m750), (1, 2, [], [0, 15, 16, 9, 6, 10, 3, 4, 19, 12], [0, 0, 26, 19, 21, 7, 5, 3, 8, 25, 22, 13, 10, 17, 14, 30], ce_m750), (2, 2, [], [0, 2, 7, 13, 15, 4, 10, 8, 18, 16], [0, 0, 0, 4, 7, 11, 3, 14, 12, 21, 23, 18, 16, 25, 27, 32], ce_m725)]) (by decide +kernel) ce_p725 (ce_pc ce_p750 (ce_pc ce_p750 (ce_pc ce_p725 ce_pn)))
def ce_m849 : Nat → Nat → Int := ce_F 10 16 0x4a400000000200048000040490000040000402400000008040012008000008081001000001010400200000280200001000000049040000000000249
theorem ce_p849 : rk_M 2 ce_m849 := ce_st (b1 := 2) (T := ce_m813) (rem := [(1, 0, 2), (1, 1, 6), (1, 3, 3)]) (rows := [0, 18, 3, 4, 13, 14, 6, 16, 10, 8]) (cols := [0, 0, 14, 0, 19, 20, 22, 5, 17, 11, 8, 3, 6, 27, 24, 13]) (L := [(0, 2, [(5, 7, 3)], [0, 13, 18, 3, 14, 5, 10, 16, 8, 6], [0, 28, 24, 7, 13, 9, 15, 0, 10, 2, 26, 23, 5, 18, 17, 20], ce_m784), (1, 2, [], [0, 13, 3, 4, 7, 14, 18, 16, 8, 10], [0, 0, 24, 28, 9, 12, 15, 3, 11, 17, 4, 7, 22, 19, 20, 26], ce_m782), (3, 2, [], [0, 12, 2, 19, 4, 15, 11, 17, 9, 7], [0, 0, 25, 0, 8, 12, 14, 6, 10, 27, 3, 4, 22, 16, 19, 21], ce_m784), (2, 2, [], [0, 12, 2, 5, 6, 15, 19, 17, 9, 11], [0, 0, 0, 0, 8, 13, 14, 2, 10, 16, 5, 6, 23, 18, 21, 27], ce_m782)]) (by decide +kernel) ce_p813 (ce_pc ce_p784 (ce_pc ce_p782 (ce_pc ce_p784 (ce_pc ce_p782 ce_pn))))
def ce_m850 : Nat → Nat → Int := ce_F 10 16 0x291000000000200211000000040280200000200000011008040000080009002041000200010008200200008000041040001000008041000000000240
theorem ce_p850 : rk_M 2 ce_m850 := ce_st (b1 := 2) (T := ce_m727) (rem := []) (rows := [0, 2, 6, 11, 5, 8, 15, 12, 17, 18]) (cols := [10, 20, 2, 13, 18, 4, 26, 29, 17, 23, 15, 24, 8, 33, 31, 6]) (L := [(2, 2, [], [0, 6, 9, 17, 18, 2, 4, 10, 12, 15], [2, 6, 0, 23, 10, 13, 9, 26, 30, 29, 25, 14, 21, 18, 4, 16], ce_m726), (3, 2, [], [0, 6, 9, 17, 18, 2, 4, 10, 12, 15], [2, 6, 0, 0, 10, 13, 9, 26, 30, 29, 25, 14, 21, 18, 4, 16], ce_m726)]) (by decide +kernel) ce_p727 (ce_pc ce_p726 (ce_pc ce_p726 ce_pn))
def ce_m851 : Nat → Nat → Int := ce_F 10 15 0xa011080200000488480200281000280041048040002201200241000200241000088000048048008000240008240000002441000000240041
theorem ce_p851 : rk_M 2 ce_m851 := ce_st (b1 := 2) (T := ce_m728) (rem := []) (rows := [0, 3, 5, 8, 7, 18, 13, 11, 15, 16]) (cols := [13, 3, 16, 5, 6, 8, 23, 30, 11, 15, 19, 21, 25, 28, 27]) (L := [(2, 2, [(4, 8, 0), (4, 11, 6)], [0, 2, 4, 7, 14, 13, 16, 10, 8, 18], [8, 6, 0, 2, 13, 5, 15, 17, 0, 10, 19, 0, 23, 21, 24], ce_m815), (6, 2, [(4, 13, 7)], [0, 2, 6, 15, 4, 16, 8, 18, 10, 13], [20, 2, 0, 4, 7, 13, 0, 25, 10, 18, 8, 14, 16, 0, 22], ce_m814), (0, 2, [(5, 9, 7)], [0, 2, 4, 9, 6, 19, 12, 10, 14, 17], [0, 2, 0, 4, 7, 9, 0, 15, 10, 0, 18, 20, 24, 29, 26], ce_m728), (7, 2, [], [0, 2, 4, 9, 6, 19, 12, 10, 14, 17], [0, 2, 0, 4, 7, 9, 0, 0, 10, 14, 18, 20, 24, 29, 26], ce_m728)]) (by decide +kernel) ce_p728 (ce_pc ce_p815 (ce_pc ce_p814 (ce_pc ce_p728 (ce_pc ce_p728 ce_pn))))
def ce_m852 : Nat → Nat → Int := ce_F 10 15 0x104045004004808800204024800108020124000a000201041000408001041000408000048200208000240200240000011011000000201201
theorem ce_p852 : rk_M 2 ce_m852 := ce_st (b1 := 2) (T := ce_m730) (rem := []) (rows := [0, 2, 4, 9, 6, 11, 12, 15, 17, 18]) (cols := [10, 2, 5, 19, 20, 6, 9, 30, 12, 14, 16, 23, 24, 26, 28]) (L := [(0, 2, [(5, 8, 3), (5, 9, 4)], [0, 2, 12, 11, 6, 5, 18, 17, 9, 15], [0, 4, 3, 12, 10, 18, 15, 22, 0, 0, 8, 7, 21, 17, 25], ce_m816), (3, 2, [(4, 12, 7)], [0, 3, 5, 6, 15, 16, 13, 8, 18, 11], [0, 5, 10, 0, 20, 3, 6, 16, 9, 13, 25, 15, 0, 18, 22], ce_m817), (4, 2, [(4, 13, 7)], [0, 2, 4, 9, 6, 11, 12, 15, 17, 18], [0, 2, 5, 0, 0, 6, 9, 26, 12, 14, 16, 23, 24, 0, 28], ce_m730), (7, 2, [], [0, 2, 4, 9, 6, 11, 12, 15, 17, 18], [0, 2, 5, 0, 0, 6, 9, 0, 12, 14, 16, 23, 24, 26, 28], ce_m730)]) (by decide +kernel) ce_p730 (ce_pc ce_p816 (ce_pc ce_p817 (ce_pc ce_p730 (ce_pc ce_p730 ce_pn))))
def ce_m853 : Nat → Nat → Int := ce_F 10 15 0x8242401000009200440200440042080040000241048048050000240008280000240008200240008000082010200000041008200008001009
theorem ce_p853 : rk_M 2 ce_m853 := ce_st (b1 := 2) (T := ce_m732) (rem := []) (rows := [0, 2, 5, 10, 6, 8, 12, 17, 14, 18]) (cols := [6, 13, 2, 4, 22, 8, 10, 14, 16, 30, 19, 20, 28, 24, 26]) (L := [(1, 2, [(3, 6, 2), (4, 9, 8)], [0, 3, 8, 7, 5, 13, 0, 14, 16, 11], [3, 0, 5, 15, 23, 7, 19, 9, 11, 0, 12, 17, 21, 27, 25], ce_m589), (4, 2, [(3, 6, 2), (5, 14, 9)], [0, 5, 3, 14, 10, 12, 0, 6, 16, 9], [15, 0, 13, 4, 0, 9, 6, 11, 2, 16, 21, 23, 25, 18], ce_m662), (0, 2, [(3, 6, 2), (5, 9, 5)], [0, 3, 10, 7, 5, 13, 0, 14, 16, 9], [0, 0, 5, 17, 0, 3, 21, 9, 10, 0, 12, 15, 19, 27, 23], ce_m589), (9, 2, [(3, 6, 2)], [0, 3, 10, 7, 5, 13, 0, 14, 16, 9], [0, 0, 5, 17, 0, 3, 21, 9, 10, 0, 12, 15, 19, 27, 23], ce_m589)]) (by decide +kernel) ce_p732 (ce_pc ce_p589 (ce_pc ce_p662 (ce_pc ce_p589 (ce_pc ce_p589 ce_pn))))
def ce_m854 : Nat → Nat → Int := ce_F 10 15 0x10088210008080411001040280401080040410002011201209001000202200012200041000201008002401040000000242040000000000049
theorem ce_p854 : rk_M 2 ce_m854 := ce_st (b1 := 2) (T := ce_m731) (rem := []) (rows := [0, 3, 4, 9, 7, 18, 10, 15, 12, 16]) (cols := [23, 26, 28, 3, 4, 6, 9, 11, 13, 15, 17, 19, 20, 25, 31]) (L := [(0, 2, [(3, 6, 3), (5, 13, 1)], [0, 3, 5, 11, 9, 12, 0, 7, 17, 14], [0, 19, 26, 5, 9, 6, 11, 3, 15, 16, 12, 21, 22, 0, 25], ce_m590), (1, 2, [(3, 6, 3), (5, 14, 2)], [0, 8, 10, 2, 16, 6, 0, 5, 13, 15], [0, 0, 18, 4, 22, 14, 6, 11, 20, 12, 16, 8, 26, 2], ce_m586), (2, 2, [(3, 6, 3)], [0, 8, 10, 2, 16, 6, 0, 5, 13, 15], [0, 0, 0, 4, 22, 14, 6, 11, 20, 12, 16, 8, 26, 2, 19], ce_m586)]) (by decide +kernel) ce_p731 (ce_pc ce_p590 (ce_pc ce_p586 (ce_pc ce_p586 ce_pn)))
def ce_m855 : Nat → Nat → Int := ce_F 10 15 0x12049200000042410440000242400048000040200211000200400488040000048048040001009008000240240000040040041000040040041
theorem ce_p855 : rk_M 2 ce_m855 := ce_st (b1 := 2) (T := ce_m758) (rem := [(1, 0, 3)]) (rows := [0, 4, 6, 2, 12, 9, 11, 14, 17, 18]) (cols := [0, 8, 21, 2, 4, 11, 24, 6, 12, 15, 29, 18, 23, 16, 26]) (L := [(0, 2, [(5, 13, 10)], [0, 2, 4, 16, 6, 9, 14, 12, 19, 10], [0, 4, 20, 2, 12, 8, 26, 16, 6, 14, 24, 10, 23, 0, 18], ce_m786), (6, 2, [(4, 12, 2), (5, 14, 10)], [0, 4, 6, 2, 12, 9, 11, 14, 17, 18], [0, 8, 23, 2, 4, 11, 0, 6, 12, 15, 27, 18, 0, 16], ce_m758), (10, 2, [], [0, 2, 8, 6, 4, 15, 13, 16, 11, 19], [0, 2, 14, 6, 10, 8, 0, 4, 16, 12, 0, 18, 24, 22, 20], ce_m818), (2, 2, [], [0, 4, 6, 2, 12, 9, 11, 14, 17, 18], [0, 8, 0, 2, 4, 11, 0, 6, 12, 15, 0, 18, 23, 16, 26], ce_m758)]) (by decide +kernel) ce_p758 (ce_pc ce_p786 (ce_pc ce_p758 (ce_pc ce_p818 (ce_pc ce_p758 ce_pn))))
def ce_m856 : Nat → Nat → Int := ce_F 10 15 0x1108a20000000020a280200048001040041040001040202401002008082001002001000200089000000208001200000208001200200000281
theorem ce_p856 : rk_M 2 ce_m856 := ce_st (b1 := 2) (T := ce_m738) (rem := []) (rows := [0, 3, 5, 6, 13, 15, 9, 11, 16, 19]) (cols := [3, 5, 7, 20, 11, 9, 13, 15, 17, 19, 22, 30, 25, 29, 27]) (L := [(0, 2, [(5, 11, 8)], [0, 14, 4, 3, 18, 11, 17, 8, 12, 7], [0, 10, 14, 13, 17, 4, 21, 6, 23, 8, 3, 0, 24, 19, 26], ce_m791), (2, 2, [(4, 11, 9)], [0, 4, 14, 2, 11, 18, 8, 17, 13, 6], [0, 10, 0, 12, 4, 17, 6, 21, 8, 23, 2, 0, 24, 26, 19], ce_m791), (3, 2, [(5, 11, 10)], [0, 2, 4, 7, 12, 14, 8, 10, 17, 18], [0, 4, 0, 0, 10, 8, 12, 14, 16, 18, 23, 0, 24, 28, 26], ce_m738), (11, 2, [], [0, 2, 4, 7, 12, 14, 8, 10, 17, 18], [0, 4, 0, 0, 10, 8, 12, 14, 16, 18, 23, 0, 24, 28, 26], ce_m738)]) (by decide +kernel) ce_p738 (ce_pc ce_p791 (ce_pc ce_p791 (ce_pc ce_p738 (ce_pc ce_p738 ce_pn))))
def ce_m857 : Nat → Nat → Int := ce_F 10 15 0x1104140004000004a280200048040040041040040040202400042008082000042001001000089000000208001200000208001200040000281
theorem ce_p857 : rk_M 2 ce_m857 := ce_st (b1 := 2) (T := ce_m765) (rem := [(1, 10, 8)]) (rows := [0, 3, 5, 6, 13, 15, 9, 11, 16, 18]) (cols := [3, 5, 7, 20, 15, 13, 9, 11, 17, 19, 0, 22, 25, 29, 27]) (L := [(10, 2, [(4, 6, 0), (4, 7, 2), (4, 11, 3)], [0, 2, 4, 7, 12, 14, 8, 10, 17, 19], [8, 4, 10, 23, 14, 12, 0, 0, 16, 18, 0, 0, 24, 28, 26], ce_m765), (0, 2, [], [0, 12, 2, 4, 16, 6, 14, 9, 10, 18], [0, 6, 8, 12, 14, 5, 25, 2, 21, 10, 0, 16, 19, 23, 26], ce_m787), (2, 2, [], [0, 3, 13, 4, 7, 17, 8, 15, 10, 18], [0, 7, 0, 12, 4, 15, 3, 24, 11, 20, 0, 16, 18, 27, 22], ce_m787), (3, 2, [], [0, 2, 4, 7, 12, 14, 8, 10, 17, 19], [0, 4, 0, 0, 14, 12, 8, 10, 16, 18, 0, 23, 24, 28, 26], ce_m765)]) (by decide +kernel) ce_p765 (ce_pc ce_p765 (ce_pc ce_p787 (ce_pc ce_p787 (ce_pc ce_p765 ce_pn))))
def ce_m858 : Nat → Nat → Int := ce_F 10 15 0x908a000001042402000048081002440001001010210001000248000200008041041008202008000000402008200040201000200000000049
theorem ce_p858 : rk_M 2 ce_m858 := ce_st (b1 := 2) (T := ce_m739) (rem := []) (rows := [0, 7, 4, 3, 9, 13, 11, 15, 18, 17]) (cols := [7, 24, 29, 4, 3, 9, 13, 10, 19, 17, 15, 21, 23, 27, 31]) (L := [(2, 2, [(4, 8, 0), (5, 9, 1)], [0, 6, 5, 2, 8, 12, 10, 14, 19, 16], [18, 17, 0, 5, 2, 8, 12, 11, 0, 0, 14, 20, 22, 26, 30], ce_m739), (0, 2, [], [0, 9, 6, 5, 3, 11, 17, 14, 12, 18], [0, 4, 0, 12, 3, 17, 7, 18, 15, 9, 23, 21, 11, 25, 26], ce_m793), (1, 2, [], [0, 6, 5, 2, 8, 12, 10, 14, 19, 16], [0, 0, 0, 5, 2, 8, 12, 11, 18, 16, 14, 20, 22, 26, 30], ce_m739)]) (by decide +kernel) ce_p739 (ce_pc ce_p739 (ce_pc ce_p793 (ce_pc ce_p739 ce_pn)))
def ce_m859 : Nat → Nat → Int := ce_F 10 15 0x2240009200050080410200088440001000009040240000001210040008000202040008001040080001000240040040008009040000000241
theorem ce_p859 : rk_M 2 ce_m859 := ce_st (b1 := 2) (T := ce_m797) (rem := [(1, 0, 2), (1, 14, 8)]) (rows := [0, 9, 2, 4, 7, 11, 12, 17, 15, 18]) (cols := [0, 9, 11, 21, 4, 2, 14, 12, 16, 19, 6, 26, 24, 22]) (L := [(0, 2, [], [0, 3, 16, 4, 7, 8, 13, 10, 19, 15], [0, 3, 5, 22, 20, 24, 7, 8, 12, 10, 27, 15, 16, 19, 29], ce_m761), (14, 2, [(4, 9, 3)], [0, 12, 4, 9, 10, 3, 14, 7, 17, 18], [0, 14, 18, 3, 8, 6, 10, 17, 13, 0, 4, 24, 23, 20], ce_m825), (2, 2, [], [0, 9, 2, 4, 7, 11, 12, 17, 15, 18], [0, 9, 0, 11, 4, 2, 14, 12, 16, 19, 6, 24, 22, 20], ce_m822), (3, 2, [], [0, 2, 17, 5, 6, 9, 12, 11, 18, 14], [0, 2, 0, 0, 21, 25, 6, 9, 13, 11, 26, 14, 17, 18], ce_m761)]) (by decide +kernel) ce_p797 (ce_pc ce_p761 (ce_pc ce_p825 (ce_pc ce_p822 (ce_pc ce_p761 ce_pn))))
def ce_m860 : Nat → Nat → Int := ce_F 10 15 0x12081010000080041208000201080208000241040008008050002008001408400008001009000200000001210200008000240200008000049
theorem ce_p860 : rk_M 2 ce_m860 := ce_st (b1 := 2) (T := ce_m775) (rem := [(1, 0, 1)]) (rows := [0, 3, 4, 7, 16, 12, 9, 11, 15, 19]) (cols := [0, 8, 11, 3, 5, 14, 12, 19, 17, 26, 7, 21, 23, 25, 29]) (L := [(0, 2, [], [0, 18, 5, 3, 8, 10, 17, 15, 7, 12], [0, 14, 13, 16, 29, 7, 9, 3, 5, 26, 25, 11, 18, 21, 22], ce_m762), (1, 2, [(5, 9, 6)], [0, 4, 14, 8, 13, 10, 18, 2, 17, 7], [0, 0, 22, 14, 2, 27, 6, 16, 18, 0, 20, 4, 25, 10, 8], ce_m794), (2, 2, [(5, 11, 9)], [0, 19, 4, 2, 9, 11, 16, 14, 6, 13], [0, 0, 0, 17, 28, 6, 8, 2, 4, 11, 24, 0, 19, 20, 23], ce_m762), (9, 2, [], [0, 19, 4, 2, 9, 11, 16, 14, 6, 13], [0, 0, 0, 17, 28, 6, 8, 2, 4, 0, 24, 10, 19, 20, 23], ce_m762)]) (by decide +kernel) ce_p775 (ce_pc ce_p762 (ce_pc ce_p794 (ce_pc ce_p762 (ce_pc ce_p762 ce_pn))))
def ce_m861 : Nat → Nat → Int := ce_F 10 15 0x8081480008010240090008010000490040002441000010048000200008008008200000002208200008040008200200041000200000000049
theorem ce_p861 : rk_M 2 ce_m861 := ce_st (b1 := 2) (T := ce_m779) (rem := [(1, 0, 1)]) (rows := [0, 3, 9, 6, 5, 11, 13, 14, 16, 18]) (cols := [0, 22, 26, 9, 11, 3, 13, 5, 17, 15, 18, 20, 7, 25, 28]) (L := [(0, 2, [(5, 7, 2)], [0, 4, 10, 3, 13, 7, 9, 14, 18, 17], [0, 15, 3, 8, 5, 16, 7, 0, 10, 13, 21, 18, 22, 27, 25], ce_m803), (2, 2, [], [0, 3, 9, 6, 5, 11, 13, 14, 16, 18], [0, 14, 0, 9, 11, 3, 13, 5, 19, 17, 20, 22, 7, 25, 26], ce_m798), (1, 2, [], [0, 3, 9, 6, 5, 11, 13, 14, 16, 18], [0, 0, 0, 9, 11, 3, 13, 5, 17, 15, 18, 20, 7, 25, 28], ce_m779)]) (by decide +kernel) ce_p779 (ce_pc ce_p803 (ce_pc ce_p798 (ce_pc ce_p779 ce_pn)))
def ce_m862 : Nat → Nat → Int := ce_F 10 15 0x8440200010248000002281001201008040040208008202011200000080002088000002002200200080010200040000000209000000000209
theorem ce_p862 : rk_M 2 ce_m862 := ce_st (b1 := 2) (T := ce_m749) (rem := []) (rows := [0, 3, 9, 5, 6, 10, 15, 13, 16, 18]) (cols := [28, 5, 3, 30, 7, 10, 9, 12, 14, 18, 17, 20, 23, 24, 26]) (L := [(3, 2, [(4, 4, 1), (5, 12, 0)], [0, 3, 9, 5, 6, 10, 15, 13, 16, 18], [22, 7, 3, 0, 0, 10, 9, 12, 14, 18, 17, 20, 0, 24, 26], ce_m749), (0, 2, [], [0, 3, 4, 9, 10, 13, 7, 17, 14, 18], [0, 3, 5, 0, 7, 8, 13, 15, 18, 11, 23, 25, 17, 20, 26], ce_m802), (1, 2, [], [0, 3, 9, 5, 6, 10, 15, 13, 16, 18], [0, 0, 3, 0, 7, 10, 9, 12, 14, 18, 17, 20, 23, 24, 26], ce_m749)]) (by decide +kernel) ce_p749 (ce_pc ce_p749 (ce_pc ce_p802 (ce_pc ce_p749 ce_pn)))
def ce_m863 : Nat → Nat → Int := ce_F 10 15 0x1028040044000a201000081001201008040040208008208011200000010002088000002002200200080010200040000000209000000000209
theorem ce_p863 : rk_M 2 ce_m863 := ce_st (b1 := 2) (T := ce_m723) (rem := []) (rows := [0, 3, 9, 5, 6, 10, 19, 15, 12, 16]) (cols := [18, 7, 3, 32, 5, 10, 9, 12, 14, 24, 21, 26, 29, 16, 22]) (L := [(0, 2, [(4, 12, 3)], [0, 3, 4, 9, 10, 13, 7, 15, 18, 16], [0, 3, 5, 17, 7, 8, 13, 15, 18, 11, 21, 25, 0, 26, 23], ce_m799), (3, 2, [(4, 4, 1)], [0, 3, 9, 5, 6, 10, 19, 15, 12, 16], [0, 5, 3, 0, 0, 10, 9, 12, 14, 24, 21, 26, 29, 16, 22], ce_m723), (1, 2, [], [0, 3, 9, 5, 6, 10, 19, 15, 12, 16], [0, 0, 3, 0, 5, 10, 9, 12, 14, 24, 21, 26, 29, 16, 22], ce_m723)]) (by decide +kernel) ce_p723 (ce_pc ce_p799 (ce_pc ce_p723 (ce_pc ce_p723 ce_pn)))
def ce_m864 : Nat → Nat → Int := ce_F 10 15 0xa289000000001441440000200001048040200040208200001010440001000410040001010080008001001002040000000209000000000209
theorem ce_p864 : rk_M 2 ce_m864 := ce_st (b1 := 2) (T := ce_m746) (rem := []) (rows := [0, 3, 4, 10, 7, 8, 15, 13, 16, 18]) (cols := [8, 7, 3, 14, 5, 10, 12, 16, 19, 20, 22, 26, 25, 31, 29]) (L := [(0, 2, [], [0, 2, 11, 15, 6, 5, 12, 8, 16, 19], [0, 6, 4, 9, 2, 10, 12, 14, 20, 17, 27, 29, 18, 24, 22], ce_m767), (3, 2, [(4, 4, 1)], [0, 3, 4, 10, 7, 8, 15, 13, 16, 18], [0, 5, 3, 0, 0, 10, 12, 16, 19, 20, 22, 26, 25, 31, 29], ce_m746), (1, 2, [], [0, 3, 4, 10, 7, 8, 15, 13, 16, 18], [0, 0, 3, 0, 5, 10, 12, 16, 19, 20, 22, 26, 25, 31, 29], ce_m746)]) (by decide +kernel) ce_p746 (ce_pc ce_p767 (ce_pc ce_p746 (ce_pc ce_p746 ce_pn)))
def ce_m865 : Nat → Nat → Int := ce_F 10 15 0x924000000104904000000820004100024020004100024040004a00000040800a000000408042000400002041010000080040200000000049
theorem ce_p865 : rk_M 2 ce_m865 := ce_st (b1 := 2) (T := ce_m751) (rem := []) (rows := [0, 6, 8, 3, 5, 10, 12, 14, 16, 18]) (cols := [20, 30, 22, 2, 6, 5, 8, 10, 13, 15, 16, 18, 25, 29, 27]) (L := [(0, 2, [(4, 14, 1)], [0, 6, 12, 3, 5, 18, 9, 11, 14, 16], [0, 23, 27, 4, 14, 9, 18, 20, 11, 13, 3, 16, 7, 25], ce_m810), (2, 2, [(4, 13, 1)], [0, 7, 9, 2, 4, 11, 13, 15, 17, 19], [0, 28, 0, 3, 7, 4, 9, 11, 12, 14, 17, 19, 24, 0, 26], ce_m751), (1, 2, [], [0, 7, 9, 2, 4, 11, 13, 15, 17, 19], [0, 0, 0, 3, 7, 4, 9, 11, 12, 14, 17, 19, 24, 28, 26], ce_m751)]) (by decide +kernel) ce_p751 (ce_pc ce_p810 (ce_pc ce_p751 (ce_pc ce_p751 ce_pn)))
def ce_m866 : Nat → Nat → Int := ce_F 10 15 0xa080088000082080208000410440000201410040000041200000440000008410040000009400008009000040200000009041000000000049
theorem ce_p866 : rk_M 2 ce_m866 := ce_st (b1 := 2) (T := ce_m738) (rem := [(4, 8, 0), (4, 9, 2)]) (rows := [0, 16, 6, 4, 3, 18, 14, 13, 8, 11]) (cols := [6, 20, 3, 30, 22, 12, 15, 4, 0, 0, 11, 8, 27, 28, 25]) (L := [(0, 2, [], [0, 5, 6, 12, 8, 3, 18, 14, 11, 17], [0, 9, 20, 3, 4, 7, 15, 19, 28, 10, 16, 24, 13, 23, 26], ce_m773), (1, 2, [], [0, 17, 19, 5, 2, 7, 15, 12, 9, 10], [0, 0, 16, 21, 22, 13, 14, 5, 7, 2, 26, 29, 10, 9, 24], ce_m738), (2, 2, [], [0, 16, 18, 4, 3, 6, 14, 13, 8, 11], [0, 0, 0, 20, 23, 12, 15, 4, 6, 3, 27, 28, 11, 8, 25], ce_m738)]) (by decide +kernel) ce_p738 (ce_pc ce_p773 (ce_pc ce_p738 (ce_pc ce_p738 ce_pn)))
def ce_m867 : Nat → Nat → Int := ce_F 10 15 0x9290000000012248000000048000240041000090001040040088400000042009000000049000040080000411002000010040200000000049
theorem ce_p867 : rk_M 2 ce_m867 := ce_st (b1 := 2) (T := ce_m750) (rem := []) (rows := [0, 7, 8, 11, 5, 2, 12, 14, 16, 19]) (cols := [15, 18, 16, 7, 5, 9, 2, 11, 12, 21, 25, 22, 29, 26, 30]) (L := [(0, 2, [(5, 3, 2)], [0, 7, 2, 18, 17, 4, 13, 8, 10, 15], [0, 20, 2, 0, 17, 11, 4, 15, 28, 22, 26, 12, 7, 18, 25], ce_m735), (1, 2, [], [0, 2, 7, 18, 4, 17, 13, 8, 10, 15], [0, 0, 21, 2, 16, 4, 11, 28, 15, 22, 12, 26, 18, 7, 25], ce_m735), (2, 2, [], [0, 2, 7, 18, 4, 17, 13, 8, 10, 15], [0, 0, 0, 2, 16, 4, 11, 28, 15, 22, 12, 26, 18, 7, 25], ce_m735)]) (by decide +kernel) ce_p750 (ce_pc ce_p735 (ce_pc ce_p735 (ce_pc ce_p735 ce_pn)))
def ce_m868 : Nat → Nat → Int := ce_F 10 15 0xa480400200001240000201001041000208080089000000011202000000000088440202002000040200001080200000000240200000000049
theorem ce_p868 : rk_M 2 ce_m868 := ce_st (b1 := 2) (T := ce_m755) (rem := []) (rows := [0, 2, 7, 9, 5, 10, 12, 16, 14, 18]) (cols := [6, 11, 19, 2, 4, 9, 12, 14, 16, 22, 20, 24, 26, 29, 31]) (L := [(1, 2, [], [0, 2, 13, 17, 5, 6, 8, 14, 10, 18], [4, 0, 21, 2, 6, 9, 10, 18, 12, 16, 14, 24, 22, 27, 29], ce_m774), (2, 2, [(4, 3, 0)], [0, 2, 7, 9, 5, 10, 12, 16, 14, 18], [2, 0, 0, 0, 4, 9, 12, 14, 16, 22, 20, 24, 26, 29, 31], ce_m755), (0, 2, [], [0, 2, 7, 9, 5, 10, 12, 16, 14, 18], [0, 0, 0, 2, 4, 9, 12, 14, 16, 22, 20, 24, 26, 29, 31], ce_m755)]) (by decide +kernel) ce_p755 (ce_pc ce_p774 (ce_pc ce_p755 (ce_pc ce_p755 ce_pn)))
def ce_m869 : Nat → Nat → Int := ce_F 10 15 0x1120800000008820800000001144000000020004000120800004100804000004104000800100208000800100048000840104000000a001001
theorem ce_p869 : rk_M 2 ce_m869 := ce_st (b1 := 2) (T := ce_m812) (rem := [(1, 0, 2), (1, 4, 4)]) (rows := [0, 18, 2, 12, 4, 8, 7, 14, 10, 17]) (cols := [0, 5, 8, 21, 0, 16, 2, 14, 13, 18, 27, 6, 24, 23, 10]) (L := [(0, 2, [(4, 6, 4), (4, 11, 9)], [0, 4, 16, 18, 6, 2, 8, 11, 15, 12], [0, 22, 4, 16, 18, 2, 0, 14, 7, 25, 8, 0, 26, 20, 12], ce_m778), (4, 2, [], [0, 13, 2, 4, 18, 14, 11, 6, 8, 16], [0, 3, 27, 9, 0, 13, 6, 10, 25, 22, 17, 4, 14, 19, 21], ce_m808), (8, 2, [], [0, 18, 2, 12, 4, 8, 7, 14, 10, 17], [0, 5, 8, 17, 0, 14, 2, 12, 0, 25, 23, 6, 20, 19, 10], ce_m828), (9, 2, [], [0, 18, 16, 4, 6, 2, 8, 11, 15, 12], [0, 7, 4, 17, 0, 14, 18, 2, 0, 0, 26, 25, 8, 20, 12], ce_m778)]) (by decide +kernel) ce_p812 (ce_pc ce_p778 (ce_pc ce_p808 (ce_pc ce_p828 (ce_pc ce_p778 ce_pn))))
def ce_m870 : Nat → Nat → Int := ce_F 10 14 0x210201009011012200008052080001208001051000040009048000008008241001009008000010010408008040040040000000049
theorem ce_p870 : rk_M 2 ce_m870 := ce_st (b1 := 2) (T := ce_m732) (rem := []) (rows := [0, 3, 8, 5, 7, 13, 11, 16, 18, 15]) (cols := [3, 26, 25, 5, 7, 19, 11, 17, 9, 21, 13, 15, 31, 29]) (L := [(0, 2, [(3, 4, 2), (5, 11, 2)], [0, 12, 11, 2, 0, 14, 8, 5, 16, 6], [0, 17, 13, 6, 22, 11, 2, 8, 14, 20, 4, 0, 27, 18], ce_m589), (1, 2, [(3, 4, 2), (4, 9, 2)], [0, 12, 11, 2, 0, 14, 8, 5, 16, 6], [0, 0, 20, 6, 22, 11, 2, 8, 14, 0, 4, 12, 27, 18], ce_m589), (2, 2, [(3, 4, 2)], [0, 12, 11, 2, 0, 14, 8, 5, 16, 6], [0, 0, 0, 6, 22, 11, 2, 8, 14, 20, 4, 12, 27, 18], ce_m589)]) (by decide +kernel) ce_p732 (ce_pc ce_p589 (ce_pc ce_p589 (ce_pc ce_p589 ce_pn)))
def ce_m871 : Nat → Nat → Int := ce_F 10 14 0x40a200081001281008000480082001008011400008040209000041000209001000402240000201400200001000048040000000049
theorem ce_p871 : rk_M 2 ce_m871 := ce_st (b1 := 2) (T := ce_m792) (rem := [(1, 1, 6)]) (rows := [0, 5, 3, 9, 10, 12, 7, 16, 15, 18]) (cols := [13, 0, 26, 3, 9, 15, 16, 4, 7, 10, 21, 19, 24, 23]) (L := [(1, 2, [(5, 13, 2)], [0, 6, 2, 4, 12, 9, 16, 11, 18, 15], [18, 0, 25, 2, 6, 14, 5, 9, 16, 11, 22, 12, 21], ce_m790), (2, 2, [], [0, 5, 3, 9, 10, 12, 7, 14, 17, 18], [17, 0, 0, 3, 9, 15, 12, 4, 7, 10, 21, 19, 24, 23], ce_m819), (0, 2, [], [0, 3, 7, 11, 12, 4, 15, 9, 16, 18], [0, 0, 0, 5, 11, 25, 6, 8, 21, 14, 17, 27, 12, 22], ce_m786)]) (by decide +kernel) ce_p792 (ce_pc ce_p790 (ce_pc ce_p819 (ce_pc ce_p786 ce_pn)))
def ce_m872 : Nat → Nat → Int := ce_F 10 14 0x491002001001209040001202480000209000210008010000481200040281000080400210000002081200008000240040000000049
theorem ce_p872 : rk_M 2 ce_m872 := ce_st (b1 := 2) (T := ce_m764) (rem := []) (rows := [0, 7, 3, 4, 9, 10, 13, 15, 16, 19]) (cols := [23, 24, 28, 3, 5, 6, 8, 11, 12, 15, 17, 21, 19, 27]) (L := [(0, 2, [(3, 5, 1), (5, 11, 2)], [0, 2, 4, 8, 6, 0, 17, 13, 14, 11], [0, 9, 7, 10, 2, 4, 17, 26, 19, 21, 12, 0, 25, 22], ce_m586), (2, 2, [(3, 5, 1), (4, 13, 1)], [0, 2, 6, 16, 4, 0, 9, 12, 10, 15], [0, 21, 0, 26, 2, 4, 17, 10, 13, 22, 18, 6, 25], ce_m586), (1, 2, [(3, 5, 1)], [0, 2, 6, 16, 4, 0, 9, 12, 10, 15], [0, 0, 0, 26, 2, 4, 17, 10, 13, 22, 18, 6, 25, 21], ce_m586)]) (by decide +kernel) ce_p764 (ce_pc ce_p586 (ce_pc ce_p586 (ce_pc ce_p586 ce_pn)))
def ce_m873 : Nat → Nat → Int := ce_F 10 14 0x8240a008001402411000402080440008011000240008041001000048008001040001400200000202088000000049040000200209
theorem ce_p873 : rk_M 2 ce_m873 := ce_st (b1 := 2) (T := ce_m770) (rem := []) (rows := [0, 2, 5, 7, 8, 10, 12, 14, 16, 18]) (cols := [2, 5, 6, 16, 8, 10, 13, 25, 14, 18, 20, 22, 27, 28]) (L := [(0, 2, [(3, 2, 1), (5, 9, 3)], [0, 2, 0, 11, 14, 6, 4, 8, 16, 13], [0, 7, 2, 18, 4, 25, 12, 9, 14, 0, 21, 26, 23, 10], ce_m586), (1, 2, [(3, 2, 1), (5, 12, 7)], [0, 2, 0, 15, 10, 8, 16, 6, 4, 12], [0, 0, 4, 8, 2, 17, 20, 19, 15, 22, 13, 11, 0, 27], ce_m586), (3, 2, [(3, 2, 1)], [0, 6, 0, 2, 5, 10, 14, 12, 16, 9], [0, 0, 10, 0, 14, 3, 4, 17, 19, 9, 7, 21, 12, 23], ce_m709), (7, 2, [(3, 2, 1)], [0, 2, 0, 11, 14, 16, 8, 4, 6, 13], [0, 0, 4, 0, 2, 17, 23, 0, 15, 21, 19, 27, 12, 11], ce_m586)]) (by decide +kernel) ce_p770 (ce_pc ce_p586 (ce_pc ce_p586 (ce_pc ce_p709 (ce_pc ce_p586 ce_pn))))
def ce_m874 : Nat → Nat → Int := ce_F 10 14 0x452000401011408200000200442040000090410040201042000201001010200001200080200000209001008001008040000000049
theorem ce_p874 : rk_M 2 ce_m874 := ce_st (b1 := 2) (T := ce_m773) (rem := []) (rows := [0, 3, 5, 8, 7, 14, 12, 11, 17, 18]) (cols := [3, 10, 28, 5, 7, 9, 13, 15, 17, 18, 20, 23, 25, 27]) (L := [(0, 2, [], [0, 6, 12, 5, 2, 10, 14, 8, 16, 18], [0, 9, 23, 2, 6, 13, 18, 20, 4, 11, 15, 26, 16, 24], ce_m791), (1, 2, [(5, 10, 2)], [0, 2, 4, 9, 6, 15, 13, 10, 16, 19], [0, 0, 20, 4, 6, 8, 12, 14, 16, 19, 0, 22, 24, 26], ce_m773), (2, 2, [], [0, 2, 4, 9, 6, 15, 13, 10, 16, 19], [0, 0, 0, 4, 6, 8, 12, 14, 16, 19, 21, 22, 24, 26], ce_m773)]) (by decide +kernel) ce_p773 (ce_pc ce_p791 (ce_pc ce_p773 (ce_pc ce_p773 ce_pn)))
def ce_m875 : Nat → Nat → Int := ce_F 10 14 0x248048000212448000000001248000200400090041080011080010002009000008001200200010400440002080008040000000049
theorem ce_p875 : rk_M 2 ce_m875 := ce_st (b1 := 2) (T := ce_m776) (rem := []) (rows := [0, 7, 8, 11, 3, 4, 12, 14, 16, 18]) (cols := [17, 29, 14, 7, 5, 3, 8, 13, 10, 21, 18, 23, 27, 24]) (L := [(0, 2, [(3, 6, 3), (5, 3, 2)], [0, 4, 3, 9, 10, 7, 0, 12, 14, 16], [0, 15, 5, 0, 10, 13, 3, 6, 17, 8, 19, 23, 20, 25], ce_m675), (2, 2, [(3, 6, 3)], [0, 3, 4, 9, 7, 10, 0, 12, 14, 16], [0, 15, 0, 5, 11, 3, 13, 17, 6, 19, 8, 23, 25, 20], ce_m675), (1, 2, [(3, 6, 3)], [0, 11, 15, 3, 7, 17, 0, 4, 8, 13], [0, 0, 0, 19, 27, 3, 17, 14, 10, 8, 6, 5, 25, 20], ce_m600)]) (by decide +kernel) ce_p776 (ce_pc ce_p675 (ce_pc ce_p675 (ce_pc ce_p600 ce_pn)))
def ce_m876 : Nat → Nat → Int := ce_F 10 14 0x40a080088002282000088001208040040200240201200441000001001048000010012001000080408008000000009040000001009
theorem ce_p876 : rk_M 2 ce_m876 := ce_st (b1 := 2) (T := ce_m737) (rem := []) (rows := [0, 3, 5, 9, 10, 6, 15, 17, 12, 19]) (cols := [5, 16, 3, 7, 31, 9, 10, 12, 15, 19, 23, 28, 27, 20]) (L := [(1, 2, [(4, 10, 4)], [0, 3, 6, 9, 12, 10, 15, 5, 18, 17], [3, 0, 5, 7, 17, 10, 15, 13, 19, 9, 0, 23, 25, 20], ce_m823), (4, 2, [(4, 3, 0)], [0, 3, 11, 9, 4, 17, 15, 6, 12, 19], [7, 0, 3, 0, 0, 8, 12, 10, 23, 18, 15, 28, 17, 31], ce_m737), (0, 2, [], [0, 3, 11, 9, 4, 17, 15, 6, 12, 19], [0, 0, 3, 7, 0, 8, 12, 10, 23, 18, 15, 28, 17, 31], ce_m737)]) (by decide +kernel) ce_p737 (ce_pc ce_p823 (ce_pc ce_p737 (ce_pc ce_p737 ce_pn)))
def ce_m877 : Nat → Nat → Int := ce_F 10 14 0x21208008100120820040804000900024008a200000049000400000208081000200012001000001008408000000048040000000049
theorem ce_p877 : rk_M 2 ce_m877 := ce_st (b1 := 2) (T := ce_m722) (rem := [(4, 13, 2)]) (rows := [0, 6, 9, 5, 18, 2, 16, 10, 14, 13]) (cols := [8, 30, 7, 21, 14, 3, 19, 26, 29, 4, 17, 22, 10]) (L := [(0, 2, [(5, 3, 1)], [0, 5, 2, 10, 13, 7, 15, 9, 16, 18], [0, 2, 6, 0, 11, 4, 13, 14, 8, 18, 23, 20, 16, 24], ce_m827), (2, 2, [], [0, 3, 4, 13, 7, 9, 14, 10, 16, 18], [0, 12, 0, 3, 5, 6, 8, 10, 14, 16, 21, 22, 18, 25], ce_m826), (1, 2, [], [0, 6, 9, 5, 18, 2, 16, 10, 14, 13], [0, 0, 0, 21, 14, 3, 19, 26, 29, 4, 17, 22, 10, 7], ce_m722)]) (by decide +kernel) ce_p722 (ce_pc ce_p827 (ce_pc ce_p826 (ce_pc ce_p722 ce_pn)))
def ce_m878 : Nat → Nat → Int := ce_F 10 14 0x490480040001240000201008048001042010240000002240400000000088440010090000208000042008000000048040000000049
theorem ce_p878 : rk_M 2 ce_m878 := ce_st (b1 := 2) (T := ce_m780) (rem := []) (rows := [0, 2, 7, 9, 5, 10, 12, 16, 14, 18]) (cols := [6, 11, 21, 2, 4, 9, 12, 14, 16, 18, 22, 24, 26, 29]) (L := [(1, 2, [(3, 7, 3)], [0, 2, 13, 15, 5, 6, 8, 0, 10, 16], [4, 0, 19, 2, 6, 9, 10, 16, 20, 12, 14, 24, 22, 27], ce_m615), (2, 2, [(3, 7, 3), (4, 3, 0)], [0, 2, 13, 15, 5, 6, 8, 0, 10, 16], [2, 0, 0, 0, 6, 9, 10, 16, 20, 12, 14, 24, 22, 27], ce_m615), (0, 2, [(3, 7, 3)], [0, 2, 13, 15, 5, 6, 8, 0, 10, 16], [0, 0, 0, 2, 6, 9, 10, 16, 20, 12, 14, 24, 22, 27], ce_m615)]) (by decide +kernel) ce_p780 (ce_pc ce_p615 (ce_pc ce_p615 (ce_pc ce_p615 ce_pn)))
def ce_m879 : Nat → Nat → Int := ce_F 10 13 0x940020800109004000824020100020209000120104000820800025100000000a240010400080200208001008000000049
theorem ce_p879 : rk_M 2 ce_m879 := ce_st (b1 := 2) (T := ce_m794) (rem := []) (rows := [0, 4, 9, 2, 6, 12, 19, 15, 16, 10]) (cols := [12, 19, 24, 2, 4, 7, 8, 10, 14, 16, 20, 22, 26]) (L := [(2, 2, [(3, 5, 2), (4, 8, 0), (5, 9, 1)], [0, 3, 14, 5, 13, 0, 6, 9, 10, 16], [5, 18, 0, 3, 21, 8, 11, 15, 0, 0, 7, 23, 13], ce_m620), (0, 2, [(3, 5, 2)], [0, 6, 11, 2, 4, 0, 9, 14, 17, 12], [0, 9, 0, 3, 4, 11, 14, 6, 12, 18, 17, 20, 22], ce_m699), (1, 2, [(3, 5, 2)], [0, 3, 14, 5, 13, 0, 6, 9, 10, 16], [0, 0, 0, 3, 21, 8, 11, 15, 5, 19, 7, 23, 13], ce_m620)]) (by decide +kernel) ce_p794 (ce_pc ce_p620 (ce_pc ce_p699 (ce_pc ce_p620 ce_pn)))
def ce_m880 : Nat → Nat → Int := ce_F 10 13 0x2092040001201041000008240280011400201008000041240041200040001050001008041000040000011200000008009
theorem ce_p880 : rk_M 2 ce_m880 := ce_st (b1 := 2) (T := ce_m824) (rem := [(1, 0, 2)]) (rows := [0, 4, 3, 6, 9, 12, 14, 17, 11, 18]) (cols := [0, 16, 4, 10, 9, 24, 3, 14, 7, 18, 21, 13, 23]) (L := [(0, 2, [], [0, 3, 18, 7, 5, 9, 11, 12, 14, 16], [0, 13, 3, 5, 6, 23, 16, 9, 19, 14, 11, 24, 21], ce_m821), (1, 2, [(5, 9, 5)], [0, 3, 18, 7, 5, 9, 11, 12, 14, 16], [0, 0, 3, 5, 6, 15, 16, 9, 19, 0, 11, 24, 21], ce_m821), (5, 2, [], [0, 3, 18, 7, 5, 9, 11, 12, 14, 16], [0, 0, 3, 5, 6, 0, 16, 9, 19, 14, 11, 24, 21], ce_m821)]) (by decide +kernel) ce_p824 (ce_pc ce_p821 (ce_pc ce_p821 (ce_pc ce_p821 ce_pn)))
def ce_m881 : Nat → Nat → Int := ce_F 10 13 0x12090010201041200408000248001211408000009008080001040081000000490008000200210200000009008000000049
theorem ce_p881 : rk_M 2 ce_m881 := ce_st (b1 := 2) (T := ce_m732) (rem := []) (rows := [0, 2, 17, 9, 10, 4, 18, 6, 14, 13]) (cols := [2, 24, 23, 14, 6, 13, 18, 20, 4, 30, 28, 16, 10]) (L := [(0, 2, [(3, 7, 3), (5, 3, 1)], [0, 13, 4, 8, 11, 3, 16, 0, 7, 14], [0, 12, 22, 0, 25, 4, 11, 19, 3, 26, 21, 9, 7], ce_m589), (2, 2, [(3, 7, 3)], [0, 3, 4, 9, 6, 10, 13, 0, 14, 17], [0, 20, 0, 3, 6, 11, 8, 16, 4, 12, 14, 18, 22], ce_m705), (1, 2, [(3, 7, 3)], [0, 12, 5, 9, 10, 2, 17, 0, 6, 15], [0, 0, 0, 12, 24, 5, 10, 18, 2, 27, 20, 8, 6], ce_m589)]) (by decide +kernel) ce_p732 (ce_pc ce_p589 (ce_pc ce_p705 (ce_pc ce_p589 ce_pn)))
def ce_m882 : Nat → Nat → Int := ce_F 10 13 0x12050408001240000201040240008202441000010041040000000090440080480001000001280200000009008000000049
theorem ce_p882 : rk_M 2 ce_m882 := ce_st (b1 := 2) (T := ce_m800) (rem := []) (rows := [0, 2, 7, 9, 5, 10, 12, 16, 14, 18]) (cols := [6, 9, 21, 2, 4, 10, 12, 14, 16, 18, 22, 24, 26]) (L := [(1, 2, [(3, 7, 3)], [0, 2, 13, 15, 5, 6, 8, 0, 10, 16], [4, 0, 19, 2, 6, 8, 10, 14, 22, 12, 16, 24, 20], ce_m672), (2, 2, [(3, 7, 3), (4, 3, 0)], [0, 11, 9, 2, 4, 7, 13, 0, 15, 16], [15, 0, 0, 0, 22, 5, 11, 3, 13, 21, 24, 17, 26], ce_m598), (0, 2, [(3, 7, 3)], [0, 11, 9, 2, 4, 7, 13, 0, 15, 16], [0, 0, 0, 15, 22, 5, 11, 3, 13, 21, 24, 17, 26], ce_m598)]) (by decide +kernel) ce_p800 (ce_pc ce_p672 (ce_pc ce_p598 (ce_pc ce_p598 ce_pn)))
def ce_m883 : Nat → Nat → Int := ce_F 10 13 0x12201008002412000040402010240001240400000002090200201080008000041081040201000040000009008000000049
theorem ce_p883 : rk_M 2 ce_m883 := ce_st (b1 := 2) (T := ce_m805) (rem := []) (rows := [0, 2, 4, 7, 11, 9, 12, 14, 19, 16]) (cols := [2, 9, 21, 4, 6, 11, 12, 15, 17, 18, 22, 25, 26]) (L := [(0, 2, [], [0, 4, 14, 9, 16, 10, 2, 12, 19, 6], [0, 11, 15, 6, 8, 5, 21, 18, 16, 12, 2, 27, 23], ce_m791), (1, 2, [], [0, 4, 14, 9, 16, 10, 2, 12, 19, 6], [0, 0, 24, 6, 8, 5, 21, 18, 16, 12, 2, 27, 23], ce_m791), (2, 2, [], [0, 4, 12, 14, 6, 3, 17, 10, 18, 8], [0, 0, 0, 12, 2, 6, 11, 4, 20, 25, 26, 15, 23], ce_m759)]) (by decide +kernel) ce_p805 (ce_pc ce_p791 (ce_pc ce_p791 (ce_pc ce_p759 ce_pn)))
def ce_m884 : Nat → Nat → Int := ce_F 11 18 0x9482040000000488410200000010040002040000200200010200002001001001000040008008000040400040041000008000200200040048000000408000048000009000000048000048
theorem ce_p884 : rk_M 2 ce_m884 := ce_st (b1 := 2) (T := ce_m846) (rem := [(1, 1, 2), (1, 2, 1)]) (rows := [0, 3, 4, 15, 17, 7, 11, 8, 12, 18, 20]) (cols := [17, 0, 0, 7, 21, 18, 22, 5, 15, 30, 33, 3, 11, 8, 12, 28, 25, 26]) (L := [(1, 2, [(4, 3, 2)], [0, 3, 16, 9, 15, 5, 7, 10, 12, 18, 20], [3, 0, 7, 0, 15, 17, 18, 11, 13, 27, 33, 5, 9, 28, 30, 24, 21, 23], ce_m841), (2, 2, [], [0, 16, 3, 9, 15, 10, 12, 5, 7, 18, 20], [17, 0, 0, 6, 18, 3, 15, 10, 12, 27, 33, 28, 30, 5, 9, 24, 23, 21], ce_m841), (9, 2, [(5, 15, 10)], [0, 3, 16, 11, 13, 5, 7, 8, 14, 18, 20], [11, 0, 0, 7, 13, 16, 19, 3, 15, 0, 23, 5, 9, 26, 32, 0, 21, 25], ce_m841), (10, 2, [], [0, 3, 16, 11, 13, 5, 7, 8, 14, 18, 20], [11, 0, 0, 7, 13, 16, 19, 3, 15, 0, 0, 5, 9, 26, 32, 22, 21, 25], ce_m841)]) (by decide +kernel) ce_p846 (ce_pc ce_p841 (ce_pc ce_p841 (ce_pc ce_p841 (ce_pc ce_p841 ce_pn))))
def ce_m885 : Nat → Nat → Int := ce_F 11 17 0x8220100a00000909008000100104240100100004204040104000a001408000200009400210200040008009000001000240008000040001010200001000001208000040001009
theorem ce_p885 : rk_M 2 ce_m885 := ce_st (b1 := 2) (T := ce_m831) (rem := [(1, 0, 1)]) (rows := [0, 2, 7, 4, 9, 10, 18, 12, 17, 14, 20]) (cols := [0, 9, 2, 4, 19, 11, 16, 14, 12, 21, 29, 6, 24, 22, 27, 30, 32]) (L := [(0, 2, [], [0, 14, 6, 4, 3, 16, 10, 9, 20, 18, 12], [0, 12, 10, 23, 19, 3, 14, 8, 6, 5, 32, 31, 24, 20, 17, 27, 29], ce_m830), (1, 2, [(5, 10, 6)], [0, 2, 7, 4, 9, 10, 12, 16, 21, 18, 14], [0, 0, 2, 4, 9, 23, 12, 10, 24, 17, 0, 6, 20, 18, 15, 26, 29], ce_m870), (4, 2, [(5, 14, 10)], [0, 15, 7, 5, 2, 17, 11, 8, 21, 19, 13], [0, 0, 11, 22, 0, 2, 15, 9, 7, 4, 17, 30, 25, 21, 0, 26, 28], ce_m830), (10, 2, [], [0, 15, 7, 5, 2, 17, 11, 8, 21, 19, 13], [0, 0, 11, 22, 0, 2, 15, 9, 7, 4, 0, 30, 25, 21, 16, 26, 28], ce_m830)]) (by decide +kernel) ce_p831 (ce_pc ce_p830 (ce_pc ce_p870 (ce_pc ce_p830 (ce_pc ce_p830 ce_pn))))
def ce_m886 : Nat → Nat → Int := ce_F 11 17 0x5044200200000a20004808000101128000200001220201000800a008008208002002000408000000041010040008000008081000000008240200040040001008001000000049
theorem ce_p886 : rk_M 2 ce_m886 := ce_st (b1 := 2) (T := ce_m833) (rem := [(1, 0, 1)]) (rows := [0, 2, 7, 5, 11, 8, 12, 15, 19, 16, 21]) (cols := [0, 9, 19, 2, 11, 14, 13, 16, 21, 4, 25, 22, 31, 6, 27, 28, 32]) (L := [(0, 2, [(5, 13, 12)], [0, 11, 2, 4, 9, 7, 18, 15, 12, 21, 17], [0, 2, 11, 15, 7, 8, 4, 22, 25, 30, 12, 16, 27, 0, 18, 20, 29], ce_m857), (1, 2, [], [0, 2, 11, 9, 4, 6, 12, 15, 19, 16, 21], [0, 0, 8, 2, 10, 12, 15, 26, 16, 4, 18, 20, 24, 6, 29, 22, 30], ce_m854), (2, 2, [(5, 12, 10)], [0, 2, 7, 5, 11, 8, 12, 15, 19, 16, 21], [0, 0, 0, 2, 11, 14, 13, 16, 21, 4, 25, 22, 0, 6, 27, 28, 32], ce_m833), (12, 2, [], [0, 2, 7, 5, 11, 8, 12, 15, 19, 16, 21], [0, 0, 0, 2, 11, 14, 13, 16, 21, 4, 25, 22, 0, 6, 27, 28, 32], ce_m833)]) (by decide +kernel) ce_p833 (ce_pc ce_p857 (ce_pc ce_p854 (ce_pc ce_p833 (ce_pc ce_p833 ce_pn))))
def ce_m887 : Nat → Nat → Int := ce_F 11 17 0x90480400001008240012000040440202000048240009008000200048208000008000010240000000090008200010000041200000200002040201000008001008000000000049
theorem ce_p887 : rk_M 2 ce_m887 := ce_st (b1 := 2) (T := ce_m829) (rem := []) (rows := [0, 9, 7, 3, 5, 11, 13, 14, 18, 16, 20]) (cols := [18, 27, 34, 5, 3, 7, 10, 9, 14, 12, 16, 21, 23, 29, 24, 30, 33]) (L := [(0, 2, [(5, 15, 2)], [0, 7, 8, 5, 3, 11, 12, 18, 14, 20, 17], [0, 12, 22, 3, 5, 7, 17, 15, 11, 8, 30, 18, 20, 26, 24, 0, 29], ce_m859), (2, 2, [(4, 13, 1)], [0, 9, 7, 3, 5, 11, 13, 14, 18, 16, 20], [0, 29, 0, 5, 3, 7, 10, 9, 14, 12, 16, 21, 23, 0, 24, 30, 33], ce_m829), (1, 2, [], [0, 9, 7, 3, 5, 11, 13, 14, 18, 16, 20], [0, 0, 0, 5, 3, 7, 10, 9, 14, 12, 16, 21, 23, 29, 24, 30, 33], ce_m829)]) (by decide +kernel) ce_p829 (ce_pc ce_p859 (ce_pc ce_p829 (ce_pc ce_p829 ce_pn)))
def ce_m888 : Nat → Nat → Int := ce_F 11 17 0x8a20104000000044a280000001001000240008040040041001000000482200000210002008000008400400200000011000440000000001041200000000041048000041000081
theorem ce_p888 : rk_M 2 ce_m888 := ce_st (b1 := 2) (T := ce_m864) (rem := [(1, 0, 1), (1, 2, 2)]) (rows := [0, 3, 5, 7, 9, 11, 13, 15, 17, 18, 20]) (cols := [0, 5, 0, 3, 7, 9, 11, 13, 20, 15, 22, 19, 17, 25, 27, 29, 31]) (L := [(0, 2, [], [0, 16, 3, 6, 11, 5, 8, 14, 13, 19, 20], [0, 13, 21, 10, 3, 16, 5, 6, 25, 8, 29, 18, 14, 27, 23, 32, 31], ce_m835), (2, 2, [], [0, 3, 16, 7, 5, 11, 9, 13, 14, 18, 21], [0, 13, 0, 3, 10, 5, 16, 6, 24, 9, 28, 14, 18, 23, 27, 31, 32], ce_m835), (8, 2, [(5, 10, 9)], [0, 2, 17, 6, 4, 10, 8, 12, 15, 19, 20], [0, 12, 0, 2, 11, 4, 17, 7, 0, 8, 0, 15, 19, 22, 26, 30, 33], ce_m835), (10, 2, [], [0, 2, 17, 6, 4, 10, 8, 12, 15, 19, 20], [0, 12, 0, 2, 11, 4, 17, 7, 0, 8, 0, 15, 19, 22, 26, 30, 33], ce_m835)]) (by decide +kernel) ce_p864 (ce_pc ce_p835 (ce_pc ce_p835 (ce_pc ce_p835 (ce_pc ce_p835 ce_pn))))
def ce_m889 : Nat → Nat → Int := ce_F 11 17 0x5140200800001100025020000104100000800804104000100100008a008000001000010048001000010008200008001000009000200040000240000200211000000000240081
theorem ce_p889 : rk_M 2 ce_m889 := ce_st (b1 := 2) (T := ce_m863) (rem := [(1, 0, 2), (1, 2, 3)]) (rows := [0, 11, 4, 2, 7, 9, 13, 16, 14, 18, 20]) (cols := [0, 4, 0, 13, 15, 16, 28, 31, 6, 2, 18, 22, 20, 10, 8, 24, 26]) (L := [(0, 2, [], [0, 3, 20, 8, 5, 6, 10, 15, 13, 16, 18], [0, 16, 24, 3, 4, 7, 27, 30, 29, 8, 11, 14, 13, 33, 18, 22, 21], ce_m836), (2, 2, [], [0, 3, 9, 21, 7, 4, 10, 12, 14, 16, 18], [0, 17, 0, 5, 2, 6, 27, 30, 9, 28, 11, 12, 15, 19, 32, 20, 23], ce_m836), (6, 2, [(5, 10, 7)], [0, 3, 9, 21, 7, 4, 10, 12, 14, 16, 18], [0, 17, 0, 5, 2, 6, 0, 10, 9, 28, 0, 12, 15, 19, 32, 20, 23], ce_m836), (7, 2, [], [0, 3, 9, 21, 7, 4, 10, 12, 14, 16, 18], [0, 17, 0, 5, 2, 6, 0, 0, 9, 28, 11, 12, 15, 19, 32, 20, 23], ce_m836)]) (by decide +kernel) ce_p863 (ce_pc ce_p836 (ce_pc ce_p836 (ce_pc ce_p836 (ce_pc ce_p836 ce_pn))))
def ce_m890 : Nat → Nat → Int := ce_F 11 17 0x48001240001000240240000241011000280000050040088000000048080000210000082040000400080201000002002010040002002001000040000008048200000000000249
theorem ce_p890 : rk_M 2 ce_m890 := ce_st (b1 := 2) (T := ce_m862) (rem := [(1, 0, 2), (1, 3, 3)]) (rows := [0, 11, 3, 4, 7, 8, 13, 15, 16, 18, 20]) (cols := [0, 28, 30, 0, 13, 14, 5, 16, 18, 7, 2, 21, 22, 11, 8, 27, 24]) (L := [(0, 2, [], [0, 3, 20, 11, 7, 5, 8, 15, 12, 18, 17], [0, 26, 29, 25, 5, 3, 16, 6, 9, 10, 30, 14, 12, 22, 32, 20, 18], ce_m834), (3, 2, [], [0, 3, 11, 20, 5, 7, 8, 12, 15, 18, 17], [0, 26, 29, 0, 3, 5, 17, 7, 9, 30, 10, 12, 14, 32, 22, 18, 20], ce_m834), (1, 2, [(4, 8, 2)], [0, 3, 11, 20, 5, 7, 8, 12, 15, 18, 17], [0, 0, 9, 0, 3, 5, 17, 7, 0, 30, 10, 12, 14, 32, 22, 18, 20], ce_m834), (2, 2, [], [0, 3, 11, 20, 5, 7, 8, 12, 15, 18, 17], [0, 0, 0, 0, 3, 5, 17, 7, 9, 30, 10, 12, 14, 32, 22, 18, 20], ce_m834)]) (by decide +kernel) ce_p862 (ce_pc ce_p834 (ce_pc ce_p834 (ce_pc ce_p834 (ce_pc ce_p834 ce_pn))))
def ce_m891 : Nat → Nat → Int := ce_F 11 17 0x80490080001002049002000008040048048008002008401000000200211000008008200008000202008000200008000240001000010000441000001000401008000000000049
theorem ce_p891 : rk_M 2 ce_m891 := ce_st (b1 := 2) (T := ce_m844) (rem := [(4, 14, 1)]) (rows := [0, 8, 14, 3, 11, 13, 4, 6, 17, 18, 20]) (cols := [26, 7, 32, 2, 11, 15, 17, 5, 9, 19, 13, 22, 24, 20, 0, 29, 31]) (L := [(0, 2, [(5, 11, 2)], [0, 6, 3, 13, 10, 5, 15, 8, 20, 18, 17], [0, 25, 5, 8, 3, 6, 19, 23, 11, 20, 17, 0, 13, 15, 30, 28, 27], ce_m861), (1, 2, [], [0, 3, 6, 13, 5, 10, 8, 15, 20, 17, 18], [0, 0, 24, 3, 8, 19, 6, 11, 23, 17, 20, 5, 12, 14, 30, 27, 28], ce_m861), (2, 2, [], [0, 11, 13, 2, 8, 14, 5, 7, 16, 19, 21], [0, 0, 0, 2, 11, 12, 18, 4, 8, 16, 14, 25, 23, 21, 6, 26, 32], ce_m844)]) (by decide +kernel) ce_p844 (ce_pc ce_p861 (ce_pc ce_p861 (ce_pc ce_p844 ce_pn)))
def ce_m892 : Nat → Nat → Int := ce_F 11 17 0x51012200000001480008400000081001408000001240000008041000008008002002002008000000050001200000000012208000001081000200000008041008000008000049
theorem ce_p892 : rk_M 2 ce_m892 := ce_st (b1 := 2) (T := ce_m868) (rem := [(1, 0, 1), (1, 1, 2)]) (rows := [0, 2, 5, 11, 6, 14, 8, 12, 16, 18, 20]) (cols := [0, 0, 13, 4, 14, 6, 9, 17, 2, 29, 11, 18, 20, 23, 25, 26, 30]) (L := [(0, 2, [], [0, 18, 8, 3, 7, 5, 10, 13, 17, 15, 21], [0, 28, 9, 13, 5, 24, 2, 6, 21, 32, 15, 10, 19, 16, 22, 26, 30], ce_m838), (1, 2, [(5, 10, 9)], [0, 5, 10, 19, 7, 8, 3, 20, 12, 15, 16], [0, 0, 27, 3, 9, 15, 18, 5, 7, 10, 0, 25, 30, 32, 13, 17, 21], ce_m835), (2, 2, [], [0, 5, 10, 19, 7, 8, 3, 20, 12, 15, 16], [0, 0, 0, 3, 9, 15, 18, 5, 7, 28, 11, 25, 30, 32, 13, 17, 21], ce_m835), (9, 2, [], [0, 5, 10, 19, 7, 8, 3, 20, 12, 15, 16], [0, 0, 0, 3, 9, 15, 18, 5, 7, 0, 11, 25, 30, 32, 13, 17, 21], ce_m835)]) (by decide +kernel) ce_p868 (ce_pc ce_p838 (ce_pc ce_p835 (ce_pc ce_p835 (ce_pc ce_p835 ce_pn))))
def ce_m893 : Nat → Nat → Int := ce_F 11 17 0x8241000008008201040001000000002280001401000201000011000008200000010048000040000440200008208000000200408200002040000008200200200000208000041
theorem ce_p893 : rk_M 2 ce_m893 := ce_st (b1 := 2) (T := ce_m848) (rem := [(1, 2, 1)]) (rows := [0, 2, 7, 12, 8, 11, 17, 14, 5, 20, 18]) (cols := [9, 12, 0, 32, 11, 14, 4, 19, 16, 31, 2, 29, 6, 23, 24, 21, 26]) (L := [(2, 2, [], [0, 20, 13, 11, 7, 9, 3, 5, 15, 17, 19], [22, 9, 0, 33, 5, 7, 20, 3, 11, 27, 25, 28, 30, 15, 13, 16, 18], ce_m843), (0, 2, [], [0, 3, 8, 18, 7, 4, 10, 13, 16, 21, 15], [0, 8, 0, 31, 20, 10, 5, 12, 15, 29, 7, 27, 3, 16, 22, 18, 24], ce_m867), (9, 2, [(5, 11, 1)], [0, 20, 10, 12, 7, 9, 3, 5, 15, 18, 16], [0, 9, 0, 32, 4, 7, 23, 3, 11, 0, 29, 0, 26, 19, 17, 12, 14], ce_m843), (11, 2, [], [0, 20, 10, 12, 7, 9, 3, 5, 15, 18, 16], [0, 9, 0, 32, 4, 7, 23, 3, 11, 0, 29, 0, 26, 19, 17, 12, 14], ce_m843)]) (by decide +kernel) ce_p848 (ce_pc ce_p843 (ce_pc ce_p867 (ce_pc ce_p843 (ce_pc ce_p843 ce_pn))))
def ce_m894 : Nat → Nat → Int := ce_F 11 17 0x49200000001000012440000000040402040000001400201000040040010040001001001000008090080000200480008000001000000401208000000040008048000000000248
theorem ce_p894 : rk_M 2 ce_m894 := ce_st (b1 := 2) (T := ce_m849) (rem := [(1, 2, 10)]) (rows := [0, 2, 5, 14, 17, 6, 8, 13, 11, 18, 21]) (cols := [2, 4, 0, 15, 8, 13, 11, 16, 18, 6, 33, 23, 21, 31, 29, 24, 26]) (L := [(2, 2, [], [0, 2, 5, 17, 18, 7, 11, 12, 8, 14, 20], [12, 31, 0, 32, 2, 11, 15, 17, 19, 6, 9, 5, 21, 25, 29, 26, 22], ce_m845), (1, 2, [], [0, 10, 13, 19, 20, 2, 6, 9, 5, 14, 16], [10, 0, 0, 31, 14, 17, 13, 2, 8, 6, 29, 19, 5, 27, 23, 20, 24], ce_m869), (3, 2, [], [0, 7, 8, 16, 19, 2, 10, 13, 5, 15, 21], [12, 0, 0, 0, 17, 18, 15, 2, 10, 5, 8, 6, 20, 24, 32, 31, 23], ce_m845)]) (by decide +kernel) ce_p849 (ce_pc ce_p845 (ce_pc ce_p869 (ce_pc ce_p845 ce_pn)))
def ce_m895 : Nat → Nat → Int := ce_F 11 17 0x8a20000000001000a001000001000050040000080200201000002008040040001000200001040040008000009002000042200000200001010040000000041200000000001041
theorem ce_p895 : rk_M 2 ce_m895 := ce_st (b1 := 2) (T := ce_m850) (rem := [(1, 2, 1)]) (rows := [0, 3, 4, 10, 12, 7, 17, 9, 15, 18, 20]) (cols := [2, 15, 0, 7, 22, 9, 12, 18, 17, 4, 11, 25, 21, 26, 30, 29, 33]) (L := [(2, 2, [], [0, 20, 15, 16, 6, 9, 11, 12, 3, 4, 18], [24, 16, 0, 27, 29, 30, 5, 14, 19, 2, 9, 11, 12, 32, 23, 20, 7], ce_m849), (0, 2, [], [0, 3, 6, 18, 13, 5, 20, 9, 11, 15, 17], [0, 11, 0, 3, 27, 5, 12, 30, 29, 16, 9, 32, 15, 22, 25, 19, 21], ce_m847), (4, 2, [], [0, 2, 7, 19, 12, 4, 21, 8, 10, 14, 16], [0, 10, 0, 2, 0, 4, 13, 31, 28, 17, 8, 33, 14, 23, 24, 18, 20], ce_m847)]) (by decide +kernel) ce_p850 (ce_pc ce_p849 (ce_pc ce_p847 (ce_pc ce_p847 ce_pn)))
def ce_m896 : Nat → Nat → Int := ce_F 11 16 0x21224000004044808001000800900904000120000920004104008120200040001240000800024044000001001000a000000002081200001000008201000000000049
theorem ce_p896 : rk_M 2 ce_m896 := ce_st (b1 := 2) (T := ce_m832) (rem := []) (rows := [0, 5, 3, 6, 8, 13, 10, 18, 14, 16, 20]) (cols := [21, 29, 32, 3, 5, 9, 6, 11, 12, 15, 16, 18, 23, 25, 26, 30]) (L := [(1, 2, [(3, 7, 5), (4, 15, 2)], [0, 5, 3, 6, 8, 15, 10, 0, 16, 18, 12], [23, 0, 26, 3, 5, 9, 6, 13, 14, 21, 16, 10, 19, 25, 28], ce_m766), (2, 2, [(3, 7, 5), (4, 12, 0)], [0, 5, 3, 6, 8, 15, 10, 0, 16, 18, 12], [19, 0, 0, 3, 5, 9, 6, 13, 14, 21, 16, 10, 0, 25, 28, 26], ce_m766), (0, 2, [(3, 7, 5)], [0, 5, 3, 6, 8, 15, 10, 0, 16, 18, 12], [0, 0, 0, 3, 5, 9, 6, 13, 14, 21, 16, 10, 19, 25, 28, 26], ce_m766)]) (by decide +kernel) ce_p832 (ce_pc ce_p766 (ce_pc ce_p766 (ce_pc ce_p766 ce_pn)))
def ce_m897 : Nat → Nat → Int := ce_F 11 16 0x491202000000011092001000042401008000040080440200040001440008200010200440000200042040000041000408008008000201000000208041001000001009
theorem ce_p897 : rk_M 2 ce_m897 := ce_st (b1 := 2) (T := ce_m837) (rem := []) (rows := [0, 3, 5, 8, 7, 11, 14, 13, 17, 18, 20]) (cols := [3, 10, 5, 7, 24, 9, 13, 15, 16, 19, 22, 21, 32, 27, 29, 31]) (L := [(0, 2, [], [0, 20, 14, 5, 2, 11, 8, 6, 12, 17, 19], [0, 14, 8, 4, 17, 24, 2, 19, 6, 26, 13, 10, 29, 30, 20, 23], ce_m852), (1, 2, [(5, 12, 8)], [0, 2, 5, 10, 8, 12, 21, 15, 6, 17, 19], [0, 0, 4, 7, 17, 2, 20, 12, 18, 9, 22, 15, 0, 10, 24, 26], ce_m880), (4, 2, [(4, 12, 11)], [0, 2, 4, 9, 6, 10, 15, 12, 16, 19, 21], [0, 0, 4, 6, 0, 8, 12, 14, 17, 18, 23, 20, 0, 26, 28, 30], ce_m837), (12, 2, [], [0, 2, 4, 9, 6, 10, 15, 12, 16, 19, 21], [0, 0, 4, 6, 0, 8, 12, 14, 17, 18, 23, 20, 0, 26, 28, 30], ce_m837)]) (by decide +kernel) ce_p837 (ce_pc ce_p852 (ce_pc ce_p880 (ce_pc ce_p837 (ce_pc ce_p837 ce_pn))))
def ce_m898 : Nat → Nat → Int := ce_F 11 16 0x25120000100008809000220024000240000820008240004000840044000800200a008040001001041000000200208200040040000088000008001041008000000209
theorem ce_p898 : rk_M 2 ce_m898 := ce_st (b1 := 2) (T := ce_m858) (rem := [(1, 0, 1)]) (rows := [0, 3, 4, 9, 7, 11, 14, 13, 16, 18, 21]) (cols := [0, 12, 3, 27, 5, 11, 9, 16, 14, 7, 18, 23, 20, 30, 24, 29]) (L := [(0, 2, [], [0, 16, 7, 2, 5, 8, 11, 13, 15, 20, 18], [0, 13, 10, 22, 25, 2, 5, 6, 9, 28, 19, 14, 17, 31, 21, 27], ce_m855), (3, 2, [(5, 13, 11)], [0, 2, 7, 11, 4, 14, 8, 18, 20, 13, 16], [0, 10, 4, 0, 2, 17, 8, 15, 22, 6, 20, 12, 18, 0, 24, 26], ce_m879), (1, 2, [(5, 14, 13)], [0, 16, 7, 2, 5, 8, 11, 13, 15, 20, 18], [0, 0, 10, 0, 25, 2, 5, 6, 9, 28, 19, 14, 17, 20, 0, 27], ce_m855), (13, 2, [], [0, 16, 7, 2, 5, 8, 11, 13, 15, 20, 18], [0, 0, 10, 0, 25, 2, 5, 6, 9, 28, 19, 14, 17, 0, 21, 27], ce_m855)]) (by decide +kernel) ce_p858 (ce_pc ce_p855 (ce_pc ce_p879 (ce_pc ce_p855 (ce_pc ce_p855 ce_pn))))
def ce_m899 : Nat → Nat → Int := ce_F 11 16 0x28a000088000008250001000001250000200088200400040401042000001000201010040000040280001011000002200040000041008200000008208000008000049
theorem ce_p899 : rk_M 2 ce_m899 := ce_st (b1 := 2) (T := ce_m840) (rem := []) (rows := [0, 2, 4, 6, 11, 9, 19, 17, 12, 14, 20]) (cols := [15, 4, 13, 2, 6, 8, 10, 19, 17, 33, 23, 21, 24, 26, 30, 28]) (L := [(0, 2, [(5, 10, 9)], [0, 9, 10, 3, 16, 12, 18, 14, 7, 4, 20], [0, 12, 18, 5, 2, 15, 22, 29, 24, 11, 0, 6, 17, 8, 20, 27], ce_m873), (1, 2, [], [0, 18, 17, 8, 2, 7, 4, 15, 10, 12, 20], [0, 0, 19, 12, 14, 24, 7, 4, 9, 27, 2, 16, 10, 20, 28, 23], ce_m871), (2, 2, [(5, 11, 9)], [0, 2, 4, 6, 11, 9, 19, 17, 12, 14, 20], [0, 0, 0, 2, 6, 8, 10, 19, 17, 20, 23, 0, 24, 26, 30, 28], ce_m840), (9, 2, [], [0, 2, 4, 6, 11, 9, 19, 17, 12, 14, 20], [0, 0, 0, 2, 6, 8, 10, 19, 17, 0, 23, 21, 24, 26, 30, 28], ce_m840)]) (by decide +kernel) ce_p840 (ce_pc ce_p873 (ce_pc ce_p871 (ce_pc ce_p840 (ce_pc ce_p840 ce_pn))))
def ce_m900 : Nat → Nat → Int := ce_F 11 16 0x48049000020001224800000824900000004000000124804008008004200040040000900000220100000201004020000100001009020000000a400008000000000248
theorem ce_p900 : rk_M 2 ce_m900 := ce_st (b1 := 2) (T := ce_m839) (rem := []) (rows := [0, 10, 13, 3, 7, 8, 4, 15, 17, 18, 21]) (cols := [3, 28, 33, 31, 9, 16, 12, 11, 15, 6, 18, 4, 21, 25, 26, 22]) (L := [(1, 2, [(5, 9, 3)], [0, 8, 3, 11, 13, 6, 4, 14, 18, 20, 17], [11, 0, 25, 5, 9, 6, 2, 13, 15, 0, 18, 16, 27, 29, 22, 20], ce_m875), (2, 2, [], [0, 3, 8, 6, 4, 11, 13, 14, 18, 17, 20], [9, 0, 0, 24, 11, 13, 15, 6, 2, 5, 17, 19, 22, 20, 27, 29], ce_m875), (3, 2, [], [0, 10, 13, 3, 7, 8, 4, 15, 17, 18, 21], [3, 0, 0, 0, 9, 16, 12, 11, 15, 6, 18, 4, 21, 25, 26, 22], ce_m839)]) (by decide +kernel) ce_p839 (ce_pc ce_p875 (ce_pc ce_p875 (ce_pc ce_p839 ce_pn)))
def ce_m901 : Nat → Nat → Int := ce_F 11 16 0x20a08800000044044100000044040008800020a000400001000082088000000050400001000009002008048000001200001200000208000000241040000000008049
theorem ce_p901 : rk_M 2 ce_m901 := ce_st (b1 := 2) (T := ce_m866) (rem := [(1, 2, 1)]) (rows := [0, 3, 12, 7, 4, 8, 10, 14, 16, 18, 20]) (cols := [18, 8, 0, 11, 5, 20, 7, 3, 12, 14, 16, 26, 28, 25, 23, 30]) (L := [(2, 2, [(5, 6, 5), (5, 7, 0)], [0, 2, 9, 21, 19, 6, 5, 12, 11, 14, 17], [6, 9, 0, 23, 24, 3, 0, 0, 14, 17, 4, 11, 12, 29, 30, 27], ce_m856), (0, 2, [], [0, 3, 11, 5, 6, 14, 8, 20, 12, 16, 18], [0, 12, 0, 9, 3, 22, 5, 7, 10, 16, 21, 19, 27, 25, 15, 29], ce_m874), (1, 2, [], [0, 3, 21, 9, 18, 7, 4, 13, 10, 15, 16], [0, 0, 0, 23, 9, 18, 3, 6, 15, 16, 5, 30, 29, 12, 11, 26], ce_m856), (5, 2, [], [0, 2, 20, 8, 19, 6, 5, 12, 11, 14, 17], [0, 0, 0, 22, 8, 0, 2, 7, 14, 17, 4, 31, 28, 13, 10, 27], ce_m856)]) (by decide +kernel) ce_p866 (ce_pc ce_p856 (ce_pc ce_p874 (ce_pc ce_p856 (ce_pc ce_p856 ce_pn))))
def ce_m902 : Nat → Nat → Int := ce_F 11 16 0x29200000800040108a000000290000400040080200080048008001081000200401000200001000410040000000202208040040040001000008009001000000000049
theorem ce_p902 : rk_M 2 ce_m902 := ce_st (b1 := 2) (T := ce_m842) (rem := []) (rows := [0, 4, 8, 3, 12, 7, 10, 14, 18, 17, 20]) (cols := [6, 17, 26, 3, 4, 10, 13, 9, 14, 18, 22, 20, 29, 24, 32, 31]) (L := [(0, 2, [], [0, 10, 20, 3, 8, 5, 6, 16, 12, 14, 19], [0, 21, 24, 3, 4, 17, 15, 7, 9, 26, 29, 10, 18, 12, 31, 23], ce_m860), (1, 2, [(5, 7, 2)], [0, 3, 7, 4, 12, 8, 11, 17, 21, 14, 19], [0, 0, 11, 6, 5, 9, 14, 0, 13, 17, 21, 23, 26, 25, 31, 32], ce_m842), (2, 2, [], [0, 3, 7, 4, 12, 8, 11, 17, 21, 14, 19], [0, 0, 0, 6, 5, 9, 14, 10, 13, 17, 21, 23, 26, 25, 31, 32], ce_m842)]) (by decide +kernel) ce_p842 (ce_pc ce_p860 (ce_pc ce_p842 (ce_pc ce_p842 ce_pn)))
def ce_m903 : Nat → Nat → Int := ce_F 11 16 0x208200001008049000000208001488000000280081000000000040288000000011002200010400200040012000040001000008008081000000001048000000000209
theorem ce_p903 : rk_M 2 ce_m903 := ce_st (b1 := 2) (T := ce_m847) (rem := []) (rows := [0, 2, 5, 13, 6, 9, 11, 15, 17, 20, 18]) (cols := [11, 6, 2, 29, 4, 9, 16, 12, 15, 19, 21, 23, 24, 27, 32, 30]) (L := [(0, 2, [], [0, 3, 14, 18, 5, 6, 8, 11, 12, 21, 17], [0, 5, 3, 29, 7, 18, 22, 9, 10, 14, 12, 17, 27, 31, 25, 21], ce_m865), (3, 2, [(4, 4, 1)], [0, 2, 5, 13, 6, 9, 11, 15, 17, 20, 18], [0, 4, 2, 0, 0, 9, 16, 12, 15, 19, 21, 23, 24, 27, 32, 30], ce_m847), (1, 2, [], [0, 2, 5, 13, 6, 9, 11, 15, 17, 20, 18], [0, 0, 2, 0, 4, 9, 16, 12, 15, 19, 21, 23, 24, 27, 32, 30], ce_m847)]) (by decide +kernel) ce_p847 (ce_pc ce_p865 (ce_pc ce_p847 (ce_pc ce_p847 ce_pn)))
def ce_m904 : Nat → Nat → Int := ce_F 11 16 0x4a200000000280088000000440002200000010040048000002008041000008001000208001000200009400400011000200200000401000000008240000000001041
theorem ce_p904 : rk_M 2 ce_m904 := ce_st (b1 := 2) (T := ce_m847) (rem := [(1, 2, 1)]) (rows := [0, 3, 6, 18, 11, 5, 15, 9, 12, 21, 17]) (cols := [12, 9, 0, 3, 30, 5, 15, 17, 11, 33, 29, 22, 21, 19, 24, 26]) (L := [(2, 2, [], [0, 16, 19, 20, 3, 6, 4, 9, 11, 12, 15], [21, 3, 0, 24, 22, 27, 8, 11, 14, 12, 17, 29, 18, 5, 7, 30], ce_m869), (0, 2, [], [0, 13, 18, 21, 7, 3, 17, 4, 15, 9, 11], [0, 3, 0, 9, 30, 10, 18, 21, 17, 23, 6, 25, 14, 5, 13, 33], ce_m842), (4, 2, [], [0, 12, 19, 20, 15, 2, 9, 5, 7, 17, 10], [0, 16, 0, 8, 0, 11, 7, 21, 2, 23, 19, 24, 13, 4, 14, 30], ce_m842)]) (by decide +kernel) ce_p847 (ce_pc ce_p869 (ce_pc ce_p842 (ce_pc ce_p842 ce_pn)))
def ce_m905 : Nat → Nat → Int := ce_F 11 15 0x140048008101009020004101040001204804824020000904100800104028024004000220008140004100004800800004a040000012001040000000000049
theorem ce_p905 : rk_M 2 ce_m905 := ce_st (b1 := 2) (T := ce_m851) (rem := []) (rows := [0, 2, 5, 11, 7, 8, 20, 18, 14, 12, 16]) (cols := [23, 26, 30, 2, 5, 6, 8, 10, 12, 15, 17, 19, 20, 25, 29]) (L := [(1, 2, [(3, 8, 3), (4, 14, 2)], [0, 3, 5, 7, 13, 9, 10, 18, 0, 17, 14], [27, 0, 24, 9, 7, 3, 14, 5, 11, 12, 16, 19, 21, 23], ce_m790), (0, 2, [(3, 8, 3), (5, 13, 2)], [0, 2, 4, 6, 12, 8, 11, 19, 0, 16, 15], [0, 0, 23, 8, 6, 2, 15, 4, 10, 13, 17, 18, 20, 0, 25], ce_m790), (2, 2, [(3, 8, 3)], [0, 2, 4, 6, 12, 8, 11, 19, 0, 16, 15], [0, 0, 0, 8, 6, 2, 15, 4, 10, 13, 17, 18, 20, 22, 25], ce_m790)]) (by decide +kernel) ce_p851 (ce_pc ce_p790 (ce_pc ce_p790 (ce_pc ce_p790 ce_pn)))
def ce_m906 : Nat → Nat → Int := ce_F 11 15 0x241101100000900220120000041044840000141001044108004800100240000840100900000900100020800900000800000a200001040008200000048009
theorem ce_p906 : rk_M 2 ce_m906 := ce_st (b1 := 2) (T := ce_m853) (rem := []) (rows := [0, 5, 2, 6, 11, 12, 9, 14, 17, 19, 20]) (cols := [7, 10, 3, 4, 9, 29, 30, 13, 15, 17, 19, 20, 22, 25, 27]) (L := [(0, 2, [(3, 5, 4), (5, 9, 5)], [0, 13, 2, 4, 9, 0, 11, 16, 7, 14, 19], [0, 2, 7, 4, 10, 19, 23, 20, 8, 0, 14, 12, 17, 25, 27], ce_m789), (1, 2, [(3, 5, 4), (5, 11, 6)], [0, 3, 4, 6, 9, 0, 11, 16, 12, 18, 14], [0, 0, 3, 8, 13, 11, 17, 5, 23, 7, 19, 0, 14, 21, 25], ce_m820), (5, 2, [(3, 5, 4), (5, 13, 6)], [0, 12, 5, 9, 3, 0, 6, 15, 10, 17, 18], [0, 0, 8, 7, 3, 0, 16, 18, 20, 25, 23, 15, 5, 0, 26], ce_m786), (6, 2, [(3, 5, 4)], [0, 12, 5, 9, 3, 0, 6, 15, 10, 17, 18], [0, 0, 8, 7, 3, 0, 0, 18, 20, 25, 23, 15, 5, 17, 26], ce_m786)]) (by decide +kernel) ce_p853 (ce_pc ce_p789 (ce_pc ce_p820 (ce_pc ce_p786 (ce_pc ce_p786 ce_pn))))
def ce_m907 : Nat → Nat → Int := ce_F 11 15 0x128200020801200a000208081202000008040011040041000241000000050080040010001401000000201200200040200000240000001201000000000241
theorem ce_p907 : rk_M 2 ce_m907 := ce_st (b1 := 2) (T := ce_m876) (rem := [(1, 0, 2)]) (rows := [0, 5, 3, 11, 9, 12, 7, 15, 17, 18, 21]) (cols := [0, 3, 27, 28, 7, 9, 13, 15, 16, 5, 19, 21, 11, 25, 22]) (L := [(0, 2, [], [0, 2, 16, 7, 4, 10, 8, 12, 14, 18, 20], [0, 4, 18, 22, 2, 6, 9, 11, 12, 21, 14, 16, 28, 25, 27], ce_m872), (2, 2, [(5, 10, 3)], [0, 2, 16, 7, 4, 10, 8, 12, 14, 18, 20], [0, 4, 0, 15, 2, 6, 9, 11, 12, 21, 0, 16, 28, 25, 27], ce_m872), (3, 2, [], [0, 2, 16, 7, 4, 10, 8, 12, 14, 18, 20], [0, 4, 0, 0, 2, 6, 9, 11, 12, 21, 14, 16, 28, 25, 27], ce_m872)]) (by decide +kernel) ce_p876 (ce_pc ce_p872 (ce_pc ce_p872 (ce_pc ce_p872 ce_pn)))
def ce_m908 : Nat → Nat → Int := ce_F 11 15 0x2052000208009002400208000009200088091040000002400010200000011040040001001042000201000200200001040000240000001201000000000241
theorem ce_p908 : rk_M 2 ce_m908 := ce_st (b1 := 2) (T := ce_m877) (rem := [(1, 0, 2)]) (rows := [0, 5, 3, 12, 7, 8, 11, 15, 17, 18, 20]) (cols := [0, 3, 26, 28, 9, 11, 13, 15, 5, 17, 7, 22, 19, 20, 24]) (L := [(0, 2, [(5, 10, 3)], [0, 4, 14, 3, 9, 6, 12, 19, 16, 20, 10], [0, 10, 19, 12, 6, 8, 3, 14, 31, 24, 0, 5, 27, 29, 17], ce_m830), (3, 2, [], [0, 5, 3, 12, 7, 8, 11, 15, 17, 18, 20], [0, 3, 18, 0, 9, 11, 13, 15, 5, 17, 7, 24, 21, 22, 26], ce_m881), (2, 2, [], [0, 4, 14, 3, 9, 6, 12, 19, 16, 20, 10], [0, 10, 0, 0, 6, 8, 3, 14, 31, 24, 13, 5, 27, 29, 17], ce_m830)]) (by decide +kernel) ce_p877 (ce_pc ce_p830 (ce_pc ce_p881 (ce_pc ce_p830 ce_pn)))
def ce_m909 : Nat → Nat → Int := ce_F 11 15 0x1212400200009200040200008011001200202010200000048200000202001400008000080088040000002201040001008040040000000248000000008009
theorem ce_p909 : rk_M 2 ce_m909 := ce_st (b1 := 2) (T := ce_m878) (rem := [(1, 0, 2)]) (rows := [0, 3, 5, 11, 7, 9, 12, 14, 17, 19, 20]) (cols := [0, 13, 5, 7, 3, 29, 14, 9, 17, 18, 11, 20, 23, 25, 27]) (L := [(0, 2, [(5, 10, 5)], [0, 4, 13, 9, 2, 6, 14, 11, 16, 20, 18], [0, 13, 2, 8, 10, 6, 5, 16, 15, 20, 0, 18, 22, 27, 25], ce_m883), (1, 2, [], [0, 3, 5, 11, 7, 9, 14, 12, 17, 19, 20], [0, 0, 5, 7, 3, 15, 12, 9, 17, 18, 11, 21, 23, 25, 27], ce_m882), (5, 2, [], [0, 2, 4, 10, 6, 8, 13, 15, 16, 18, 21], [0, 0, 4, 6, 2, 0, 15, 8, 16, 19, 10, 21, 22, 24, 26], ce_m878)]) (by decide +kernel) ce_p878 (ce_pc ce_p883 (ce_pc ce_p882 (ce_pc ce_p878 ce_pn)))
def ce_m910 : Nat → Nat → Int := ce_F 12 19 0x48200000001001008200000008000000240000048000440040000008010040040000042200002200000000200400408000000200400408000000202008008000000280008000042000000008208080000000008041
theorem ce_p910 : rk_M 2 ce_m910 := ce_st (b1 := 2) (T := ce_m895) (rem := [(1, 0, 2), (1, 5, 4)]) (rows := [0, 18, 4, 11, 3, 12, 20, 16, 14, 6, 9, 22]) (cols := [0, 18, 14, 28, 21, 0, 22, 6, 5, 26, 24, 2, 9, 12, 31, 11, 32, 35, 17]) (L := [(0, 2, [(5, 7, 5)], [0, 13, 22, 5, 3, 14, 19, 16, 6, 8, 11, 21], [0, 12, 33, 22, 3, 7, 17, 0, 11, 18, 14, 4, 35, 28, 21, 9, 26, 24, 30], ce_m894), (5, 2, [], [0, 13, 3, 14, 22, 5, 19, 7, 17, 8, 11, 21], [0, 13, 33, 22, 17, 0, 3, 7, 10, 15, 19, 35, 4, 9, 26, 28, 21, 24, 30], ce_m894), (2, 2, [], [0, 18, 5, 10, 2, 13, 20, 17, 15, 7, 8, 23], [0, 15, 0, 25, 16, 0, 19, 7, 4, 23, 21, 3, 8, 13, 26, 10, 29, 31, 33], ce_m904), (18, 2, [], [0, 12, 23, 4, 2, 15, 18, 17, 7, 9, 10, 20], [0, 13, 0, 23, 2, 0, 16, 7, 10, 19, 15, 5, 34, 29, 20, 8, 27, 25], ce_m894)]) (by decide +kernel) ce_p895 (ce_pc ce_p894 (ce_pc ce_p894 (ce_pc ce_p904 (ce_pc ce_p894 ce_pn))))
def ce_m911 : Nat → Nat → Int := ce_F 12 18 0x28a202000000008200208040008041008200200211001042200000000202002200010000402001000080010010008000001040002200010000440001000080010200001000000001041200000000008209
theorem ce_p911 : rk_M 2 ce_m911 := ce_st (b1 := 2) (T := ce_m887) (rem := [(1, 0, 2)]) (rows := [0, 8, 2, 6, 11, 5, 12, 15, 16, 19, 21, 22]) (cols := [0, 31, 10, 9, 12, 25, 16, 2, 15, 5, 20, 18, 22, 27, 7, 29, 32, 35]) (L := [(0, 2, [], [0, 3, 18, 5, 6, 12, 9, 10, 14, 23, 17, 20], [0, 27, 3, 10, 5, 22, 7, 24, 9, 28, 12, 14, 16, 18, 35, 20, 32, 30], ce_m886), (3, 2, [], [0, 6, 2, 4, 14, 13, 9, 10, 20, 17, 19, 22], [0, 19, 8, 0, 10, 17, 15, 4, 12, 3, 23, 21, 30, 24, 7, 27, 33, 29], ce_m896), (5, 2, [(4, 6, 1)], [0, 3, 18, 5, 6, 12, 9, 10, 14, 23, 17, 20], [0, 7, 3, 0, 5, 0, 0, 24, 9, 28, 12, 14, 16, 18, 35, 20, 32, 30], ce_m886), (1, 2, [], [0, 3, 18, 5, 6, 12, 9, 10, 14, 23, 17, 20], [0, 0, 3, 0, 5, 0, 7, 24, 9, 28, 12, 14, 16, 18, 35, 20, 32, 30], ce_m886)]) (by decide +kernel) ce_p887 (ce_pc ce_p886 (ce_pc ce_p896 (ce_pc ce_p886 (ce_pc ce_p886 ce_pn))))
def ce_m912 : Nat → Nat → Int := ce_F 12 18 0x45200000220000a208000002001000051488000008042200000000400402200000000050002200000080040001008000400200008200040001000040200200008000009000000041041000000000208041
theorem ce_p912 : rk_M 2 ce_m912 := ce_st (b1 := 2) (T := ce_m891) (rem := [(1, 2, 1)]) (rows := [0, 3, 11, 5, 13, 7, 8, 15, 17, 18, 20, 22]) (cols := [33, 9, 0, 11, 3, 35, 7, 30, 5, 21, 14, 23, 12, 17, 18, 26, 25, 28]) (L := [(2, 2, [(5, 8, 7)], [0, 18, 8, 11, 14, 13, 3, 5, 7, 17, 20, 22], [29, 2, 0, 11, 26, 31, 32, 7, 0, 16, 19, 14, 13, 4, 9, 22, 25, 20], ce_m900), (0, 2, [(5, 15, 5)], [0, 5, 8, 10, 3, 7, 14, 16, 13, 22, 20, 18], [0, 14, 0, 3, 11, 7, 5, 31, 13, 24, 26, 9, 23, 28, 17, 0, 18, 21], ce_m908), (5, 2, [], [0, 5, 3, 7, 8, 10, 14, 13, 16, 22, 18, 20], [0, 3, 0, 14, 5, 0, 11, 31, 13, 9, 23, 24, 26, 16, 29, 7, 19, 20], ce_m908), (7, 2, [], [0, 3, 11, 5, 13, 7, 8, 15, 17, 18, 20, 22], [0, 9, 0, 11, 3, 0, 7, 0, 5, 21, 14, 23, 12, 17, 18, 26, 25, 28], ce_m891)]) (by decide +kernel) ce_p891 (ce_pc ce_p900 (ce_pc ce_p908 (ce_pc ce_p908 (ce_pc ce_p891 ce_pn))))
def ce_m913 : Nat → Nat → Int := ce_F 12 18 0x28a002200000011412200000000401000088000008008000088000001200000080040400011000200080002008008000200400040008040080000200200001040001040000008200001040000000000248
theorem ce_p913 : rk_M 2 ce_m913 := ce_st (b1 := 2) (T := ce_m884) (rem := []) (rows := [0, 2, 4, 13, 9, 15, 11, 6, 16, 18, 20, 22]) (cols := [4, 3, 6, 11, 8, 17, 13, 19, 15, 22, 26, 20, 24, 28, 30, 33, 35, 36]) (L := [(1, 2, [], [0, 7, 9, 18, 16, 11, 13, 3, 15, 5, 22, 20], [3, 0, 5, 13, 7, 26, 24, 9, 11, 19, 21, 29, 31, 17, 15, 32, 34, 22], ce_m889), (2, 2, [], [0, 7, 9, 11, 13, 18, 16, 3, 5, 15, 20, 22], [3, 0, 0, 4, 7, 9, 11, 26, 24, 29, 31, 19, 21, 15, 17, 33, 35, 23], ce_m889), (3, 2, [], [0, 2, 6, 17, 9, 19, 11, 4, 12, 14, 20, 22], [6, 0, 0, 0, 9, 16, 3, 18, 11, 22, 30, 20, 28, 24, 26, 33, 37, 34], ce_m884)]) (by decide +kernel) ce_p884 (ce_pc ce_p889 (ce_pc ce_p889 (ce_pc ce_p884 ce_pn)))
def ce_m914 : Nat → Nat → Int := ce_F 12 18 0x8a042000000010448400000000240000002000200012010040000000012400000200000009200040010200010200000201002001000002008010008000040042000001000000001241000000000000249
theorem ce_p914 : rk_M 2 ce_m914 := ce_st (b1 := 2) (T := ce_m903) (rem := [(1, 0, 2), (1, 3, 3)]) (rows := [0, 14, 4, 3, 10, 9, 6, 12, 19, 16, 20, 23]) (cols := [0, 18, 12, 0, 16, 15, 22, 2, 7, 20, 10, 9, 25, 26, 4, 29, 32, 31]) (L := [(0, 2, [], [0, 3, 22, 15, 7, 5, 10, 13, 9, 16, 19, 20], [0, 24, 21, 35, 5, 3, 7, 8, 22, 10, 33, 17, 15, 13, 30, 18, 28, 26], ce_m892), (3, 2, [], [0, 3, 15, 22, 5, 7, 10, 13, 9, 16, 20, 19], [0, 24, 21, 0, 3, 5, 7, 22, 8, 10, 17, 33, 13, 15, 31, 19, 26, 28], ce_m892), (1, 2, [], [0, 2, 13, 10, 7, 4, 9, 21, 15, 23, 16, 19], [0, 0, 22, 0, 7, 2, 18, 9, 10, 21, 26, 25, 15, 12, 16, 5, 34, 33], ce_m888), (2, 2, [], [0, 2, 13, 10, 7, 4, 9, 21, 15, 23, 16, 19], [0, 0, 0, 0, 7, 2, 18, 9, 10, 21, 26, 25, 15, 12, 16, 5, 34, 33], ce_m888)]) (by decide +kernel) ce_p903 (ce_pc ce_p892 (ce_pc ce_p892 (ce_pc ce_p888 (ce_pc ce_p888 ce_pn))))
def ce_m915 : Nat → Nat → Int := ce_F 12 18 0x249200000000202012001000000012040200000000001280200000040010001080000200200008400200000240000200010080040040002001000200040000002401040000000408008040000000000049
theorem ce_p915 : rk_M 2 ce_m915 := ce_st (b1 := 2) (T := ce_m894) (rem := [(4, 17, 1)]) (rows := [0, 5, 7, 13, 19, 2, 14, 16, 21, 8, 10, 22]) (cols := [3, 6, 15, 11, 13, 17, 18, 21, 8, 4, 25, 26, 22, 30, 32, 34, 28]) (L := [(0, 2, [], [0, 18, 5, 20, 6, 14, 17, 2, 9, 13, 10, 22], [0, 30, 19, 26, 3, 29, 4, 12, 8, 16, 15, 7, 11, 23, 33, 25, 20, 34], ce_m892), (1, 2, [], [0, 5, 18, 6, 20, 14, 2, 17, 8, 10, 13, 22], [0, 0, 31, 3, 26, 4, 29, 13, 16, 8, 14, 6, 10, 33, 23, 20, 25, 34], ce_m892), (2, 2, [], [0, 5, 18, 6, 20, 14, 2, 17, 8, 10, 13, 22], [0, 0, 0, 3, 26, 4, 29, 13, 16, 8, 14, 6, 10, 33, 23, 20, 25, 34], ce_m892)]) (by decide +kernel) ce_p894 (ce_pc ce_p892 (ce_pc ce_p892 (ce_pc ce_p892 ce_pn)))
def ce_m916 : Nat → Nat → Int := ce_F 12 17 0x282080201000052002009000008490040008000009080202040040441002040001011042000040200008011000200008080040001000042000200008001008200008000040240000040001009
theorem ce_p916 : rk_M 2 ce_m916 := ce_st (b1 := 2) (T := ce_m885) (rem := []) (rows := [0, 3, 5, 10, 7, 9, 16, 13, 15, 22, 21, 19]) (cols := [12, 3, 5, 7, 16, 11, 9, 20, 19, 15, 32, 25, 23, 30, 29, 27, 35]) (L := [(0, 2, [(5, 10, 7)], [0, 3, 7, 12, 5, 9, 16, 18, 11, 20, 14, 23], [0, 5, 3, 9, 10, 15, 6, 27, 23, 21, 0, 25, 13, 29, 19, 17, 30], ce_m906), (1, 2, [], [0, 9, 11, 2, 5, 7, 13, 16, 18, 23, 20, 15], [0, 0, 13, 14, 10, 3, 8, 4, 17, 20, 24, 26, 29, 6, 19, 22, 31], ce_m905), (4, 2, [(4, 14, 10)], [0, 2, 4, 11, 6, 8, 17, 12, 14, 23, 20, 18], [0, 0, 4, 6, 0, 10, 8, 21, 18, 14, 28, 24, 22, 31, 0, 26, 34], ce_m885), (10, 2, [], [0, 2, 4, 11, 6, 8, 17, 12, 14, 23, 20, 18], [0, 0, 4, 6, 0, 10, 8, 21, 18, 14, 0, 24, 22, 31, 28, 26, 34], ce_m885)]) (by decide +kernel) ce_p885 (ce_pc ce_p906 (ce_pc ce_p905 (ce_pc ce_p885 (ce_pc ce_p885 ce_pn))))
def ce_m917 : Nat → Nat → Int := ce_F 12 17 0x5144000000104808200000120820004a000000010012080040000090048000011000200200000011000048000000002208200001001000401000000041040040008200001008000000000049
theorem ce_p917 : rk_M 2 ce_m917 := ce_st (b1 := 2) (T := ce_m888) (rem := []) (rows := [0, 3, 5, 10, 6, 9, 12, 15, 16, 19, 22, 20]) (cols := [3, 28, 32, 6, 9, 10, 13, 14, 5, 17, 19, 21, 23, 25, 27, 31, 35]) (L := [(0, 2, [], [0, 18, 14, 9, 4, 2, 6, 10, 17, 13, 22, 20], [0, 19, 31, 12, 4, 2, 14, 6, 17, 8, 25, 10, 27, 23, 20, 29, 33], ce_m897), (2, 2, [(4, 13, 1)], [0, 3, 6, 13, 5, 9, 11, 15, 19, 16, 22, 20], [0, 26, 0, 3, 10, 9, 14, 13, 4, 16, 19, 21, 23, 0, 24, 28, 32], ce_m888), (1, 2, [], [0, 3, 6, 13, 5, 9, 11, 15, 19, 16, 22, 20], [0, 0, 0, 3, 10, 9, 14, 13, 4, 16, 19, 21, 23, 26, 24, 28, 32], ce_m888)]) (by decide +kernel) ce_p888 (ce_pc ce_p897 (ce_pc ce_p888 (ce_pc ce_p888 ce_pn)))
def ce_m918 : Nat → Nat → Int := ce_F 12 17 0x5004a200000040412208000009010000240000048000048008200080001200008008001008000008009000040010080010040010008010000200000410041000000050001008000000000049
theorem ce_p918 : rk_M 2 ce_m918 := ce_st (b1 := 2) (T := ce_m890) (rem := []) (rows := [0, 4, 3, 10, 7, 14, 12, 9, 16, 19, 20, 23]) (cols := [10, 24, 3, 12, 9, 14, 17, 4, 19, 6, 23, 21, 26, 31, 32, 35, 28]) (L := [(0, 2, [], [0, 14, 3, 18, 7, 8, 10, 5, 17, 13, 20, 22], [0, 16, 5, 14, 3, 7, 18, 8, 24, 28, 30, 10, 12, 22, 33, 26, 21], ce_m898), (1, 2, [], [0, 3, 14, 7, 18, 8, 5, 10, 17, 13, 22, 20], [0, 0, 17, 3, 14, 18, 7, 24, 8, 29, 31, 11, 12, 33, 22, 21, 26], ce_m898), (2, 2, [], [0, 4, 3, 12, 9, 14, 10, 7, 18, 17, 20, 23], [0, 0, 0, 10, 3, 15, 16, 4, 19, 6, 21, 23, 24, 29, 34, 33, 30], ce_m890)]) (by decide +kernel) ce_p890 (ce_pc ce_p898 (ce_pc ce_p898 (ce_pc ce_p890 ce_pn)))
def ce_m919 : Nat → Nat → Int := ce_F 12 17 0x488008040000091008001000010009080040000408042001000000050088000040200200001001008008000008080012000200000000040448000000001408040001000040240000040001009
theorem ce_p919 : rk_M 2 ce_m919 := ce_st (b1 := 2) (T := ce_m902) (rem := [(1, 1, 1)]) (rows := [0, 3, 8, 5, 15, 12, 7, 11, 20, 17, 19, 23]) (cols := [8, 0, 3, 11, 20, 5, 16, 13, 18, 15, 26, 7, 25, 23, 28, 32, 31]) (L := [(1, 2, [], [0, 22, 5, 7, 3, 12, 10, 9, 17, 15, 19, 21], [13, 0, 15, 5, 30, 32, 9, 11, 6, 2, 29, 27, 18, 16, 20, 24, 22], ce_m899), (0, 2, [], [0, 6, 20, 2, 11, 22, 4, 9, 18, 13, 16, 14], [0, 0, 2, 10, 27, 20, 23, 4, 24, 6, 18, 8, 33, 12, 14, 31, 16], ce_m897), (4, 2, [(4, 10, 7)], [0, 7, 21, 3, 10, 23, 5, 8, 19, 12, 17, 15], [0, 0, 3, 11, 0, 21, 22, 5, 25, 7, 0, 9, 32, 13, 15, 30, 17], ce_m897), (10, 2, [], [0, 7, 21, 3, 10, 23, 5, 8, 19, 12, 17, 15], [0, 0, 3, 11, 0, 21, 22, 5, 25, 7, 0, 9, 32, 13, 15, 30, 17], ce_m897)]) (by decide +kernel) ce_p902 (ce_pc ce_p899 (ce_pc ce_p897 (ce_pc ce_p897 (ce_pc ce_p897 ce_pn))))
def ce_m920 : Nat → Nat → Int := ce_F 12 17 0x241480000008049001400000002000412000042001001040000001080009000000000411040000040440001000200001010040008200000401000001008200040001000009008000000000049
theorem ce_p920 : rk_M 2 ce_m920 := ce_st (b1 := 2) (T := ce_m892) (rem := []) (rows := [0, 3, 5, 16, 14, 7, 9, 11, 13, 18, 21, 22]) (cols := [3, 26, 34, 5, 7, 9, 11, 13, 16, 15, 19, 21, 24, 23, 28, 30, 33]) (L := [(0, 2, [], [0, 14, 18, 11, 9, 13, 2, 4, 6, 21, 16, 22], [0, 23, 27, 19, 2, 8, 4, 21, 10, 7, 24, 33, 14, 12, 17, 28, 31], ce_m899), (1, 2, [], [0, 3, 4, 14, 13, 7, 9, 10, 17, 19, 20, 22], [0, 0, 21, 3, 5, 6, 15, 8, 18, 17, 10, 13, 24, 23, 26, 28, 30], ce_m909), (2, 2, [], [0, 2, 4, 17, 15, 6, 8, 10, 12, 19, 20, 23], [0, 0, 0, 4, 6, 8, 10, 12, 17, 14, 18, 20, 25, 22, 29, 31, 32], ce_m892)]) (by decide +kernel) ce_p892 (ce_pc ce_p899 (ce_pc ce_p909 (ce_pc ce_p892 ce_pn)))
def ce_m921 : Nat → Nat → Int := ce_F 12 17 0x41208000040041008200008000000011400008002009008000000088041000080200040000202200001000040000410001002000410010200010400001001010400000000208000000001240
theorem ce_p921 : rk_M 2 ce_m921 := ce_st (b1 := 2) (T := ce_m893) (rem := []) (rows := [0, 3, 5, 7, 9, 11, 13, 15, 17, 19, 20, 22]) (cols := [3, 5, 7, 8, 11, 13, 15, 17, 19, 34, 32, 30, 28, 26, 24, 22, 20]) (L := [(2, 2, [], [0, 20, 23, 13, 14, 6, 8, 2, 4, 10, 19, 16], [18, 8, 0, 32, 23, 6, 21, 4, 10, 14, 2, 13, 17, 28, 24, 27, 31], ce_m901), (3, 2, [], [0, 13, 14, 20, 23, 2, 4, 6, 8, 10, 16, 19], [20, 6, 0, 0, 33, 8, 19, 4, 10, 28, 24, 27, 31, 14, 2, 13, 17], ce_m901), (4, 2, [], [0, 2, 4, 6, 8, 10, 12, 14, 16, 18, 21, 23], [2, 4, 0, 0, 0, 12, 14, 16, 18, 35, 33, 31, 29, 27, 25, 23, 21], ce_m893)]) (by decide +kernel) ce_p893 (ce_pc ce_p901 (ce_pc ce_p901 (ce_pc ce_p893 ce_pn)))
def ce_m922 : Nat → Nat → Int := ce_F 12 16 0x8228020000849008000004840100a04000040008a010000000410082040248040000001010001401000001040048000080000208200000200040408000008001201000000000049
theorem ce_p922 : rk_M 2 ce_m922 := ce_st (b1 := 2) (T := ce_m897) (rem := []) (rows := [0, 4, 7, 2, 8, 10, 18, 13, 15, 17, 22, 20]) (cols := [12, 29, 33, 2, 6, 4, 9, 10, 14, 16, 18, 21, 22, 25, 27, 30]) (L := [(0, 2, [(3, 10, 6)], [0, 10, 5, 2, 7, 9, 20, 14, 12, 17, 0, 18], [0, 19, 30, 2, 11, 7, 5, 8, 12, 27, 21, 15, 17, 22, 25, 28], ce_m856), (2, 2, [(3, 10, 6), (4, 11, 1)], [0, 12, 7, 3, 5, 8, 21, 16, 10, 15, 0, 19], [0, 17, 0, 6, 13, 3, 5, 9, 10, 27, 19, 0, 15, 23, 24, 30], ce_m856), (1, 2, [(3, 10, 6)], [0, 12, 7, 3, 5, 8, 21, 16, 10, 15, 0, 19], [0, 0, 0, 6, 13, 3, 5, 9, 10, 27, 19, 17, 15, 23, 24, 30], ce_m856)]) (by decide +kernel) ce_p897 (ce_pc ce_p856 (ce_pc ce_p856 (ce_pc ce_p856 ce_pn)))
def ce_m923 : Nat → Nat → Int := ce_F 12 16 0x488400201000252000048000400090200000200042040000080408000200042001000001010080002200008040010001001200000048000000240040000000009008000000000209
theorem ce_p923 : rk_M 2 ce_m923 := ce_st (b1 := 2) (T := ce_m889) (rem := []) (rows := [0, 7, 8, 3, 13, 16, 4, 14, 11, 18, 20, 22]) (cols := [11, 3, 6, 24, 29, 19, 20, 30, 8, 27, 13, 17, 15, 33, 22, 35]) (L := [(0, 2, [], [0, 4, 2, 6, 17, 11, 19, 15, 12, 8, 22, 20], [0, 4, 2, 19, 10, 12, 8, 6, 25, 15, 17, 20, 26, 29, 30, 23], ce_m907), (1, 2, [], [0, 16, 8, 12, 6, 19, 5, 10, 2, 15, 20, 22], [0, 0, 12, 18, 32, 23, 8, 24, 3, 14, 4, 27, 20, 30, 11, 28], ce_m898), (3, 2, [], [0, 7, 8, 3, 13, 16, 4, 14, 11, 18, 20, 22], [0, 0, 6, 0, 29, 19, 20, 30, 8, 27, 13, 17, 15, 33, 22, 35], ce_m889)]) (by decide +kernel) ce_p889 (ce_pc ce_p907 (ce_pc ce_p898 (ce_pc ce_p889 ce_pn)))
def ce_m924 : Nat → Nat → Int := ce_F 13 19 0x91400440000000250488000000002010000440000008010000088000000240000010001080002040008000080002040040001002000040001001002000040008000041000041000000041000008040000001041008000000001040041
theorem ce_p924 : rk_M 2 ce_m924 := ce_st (b1 := 2) (T := ce_m913) (rem := [(1, 2, 1)]) (rows := [0, 3, 17, 5, 18, 11, 20, 15, 6, 8, 12, 22, 24]) (cols := [10, 15, 0, 3, 19, 7, 12, 5, 16, 9, 31, 21, 29, 25, 26, 22, 36, 33, 34]) (L := [(2, 2, [], [0, 20, 3, 5, 6, 8, 10, 12, 15, 16, 18, 23, 25], [17, 4, 0, 7, 8, 19, 20, 22, 24, 26, 13, 15, 3, 11, 28, 31, 32, 34, 37], ce_m912), (0, 2, [], [0, 3, 20, 13, 17, 7, 15, 5, 18, 10, 8, 22, 24], [0, 11, 0, 27, 9, 5, 13, 7, 15, 3, 32, 19, 34, 17, 28, 30, 24, 20, 23], ce_m918), (6, 2, [], [0, 2, 6, 8, 19, 14, 21, 16, 5, 11, 13, 22, 24], [0, 18, 0, 6, 20, 4, 0, 2, 22, 8, 16, 24, 14, 26, 13, 11, 33, 30, 29], ce_m923), (8, 2, [], [0, 21, 2, 4, 7, 9, 11, 13, 14, 17, 19, 22, 24], [0, 5, 0, 6, 9, 18, 0, 23, 0, 27, 12, 14, 2, 10, 29, 30, 33, 35, 36], ce_m912)]) (by decide +kernel) ce_p913 (ce_pc ce_p912 (ce_pc ce_p918 (ce_pc ce_p923 (ce_pc ce_p912 ce_pn))))
def ce_m925 : Nat → Nat → Int := ce_F 13 19 0x51488000000000280011000000000009080000001000201080000008000001009000200000001201001000000000001209008000010200001008000010200008000080002200010002000080280000080002008200002000080008001
theorem ce_p925 : rk_M 2 ce_m925 := ce_st (b1 := 2) (T := ce_m915) (rem := [(1, 0, 3)]) (rows := [0, 9, 14, 3, 10, 16, 5, 6, 19, 12, 20, 23, 24]) (cols := [0, 14, 20, 17, 13, 9, 3, 6, 25, 22, 10, 19, 27, 4, 33, 31, 36, 29, 34]) (L := [(0, 2, [(4, 16, 13)], [0, 12, 15, 22, 16, 18, 5, 10, 21, 3, 7, 8, 25], [0, 12, 7, 3, 4, 34, 30, 25, 18, 17, 21, 10, 14, 9, 28, 32, 0, 22, 27], ce_m921), (5, 2, [], [0, 9, 22, 3, 4, 12, 21, 6, 15, 10, 18, 16, 24], [0, 8, 18, 16, 31, 0, 5, 2, 20, 11, 22, 12, 15, 6, 35, 26, 32, 24, 28], ce_m920), (10, 2, [], [0, 5, 12, 3, 8, 22, 7, 20, 14, 10, 17, 19, 24], [0, 30, 13, 17, 9, 0, 3, 4, 21, 10, 0, 19, 14, 6, 29, 24, 32, 26, 34], ce_m920), (16, 2, [], [0, 9, 14, 3, 10, 16, 5, 6, 19, 12, 20, 23, 24], [0, 14, 20, 17, 13, 0, 3, 6, 25, 22, 0, 19, 27, 4, 33, 31, 0, 29, 34], ce_m915)]) (by decide +kernel) ce_p915 (ce_pc ce_p921 (ce_pc ce_p920 (ce_pc ce_p920 (ce_pc ce_p915 ce_pn))))
def ce_m926 : Nat → Nat → Int := ce_F 13 19 0x4100800000020004120000000100000004800000900a00000a000000080000000240040080000008040200081001000000200081001000001000040401000002000050001010000040010001040000040400001000200000000001009
theorem ce_p926 : rk_M 2 ce_m926 := ce_st (b1 := 2) (T := ce_m910) (rem := []) (rows := [0, 2, 9, 4, 11, 15, 18, 6, 12, 16, 21, 23, 25]) (cols := [12, 22, 27, 9, 11, 2, 19, 14, 16, 21, 4, 25, 7, 37, 33, 39, 31, 29, 35]) (L := [(0, 2, [], [0, 22, 7, 9, 24, 13, 10, 21, 3, 4, 17, 19, 14], [0, 32, 5, 20, 31, 37, 3, 9, 35, 13, 10, 22, 24, 16, 26, 28, 18, 15, 6], ce_m914), (1, 2, [], [0, 12, 6, 8, 10, 23, 24, 4, 2, 21, 14, 19, 17], [0, 0, 6, 20, 30, 12, 2, 8, 10, 36, 35, 18, 16, 24, 26, 28, 22, 15, 5], ce_m914), (4, 2, [], [0, 6, 8, 12, 10, 17, 19, 2, 4, 14, 20, 22, 24], [0, 0, 6, 8, 0, 2, 10, 14, 12, 21, 23, 24, 26, 34, 32, 28, 30, 38, 36], ce_m910)]) (by decide +kernel) ce_p910 (ce_pc ce_p914 (ce_pc ce_p914 (ce_pc ce_p910 ce_pn)))
def ce_m927 : Nat → Nat → Int := ce_F 13 18 0x1248040000800004144200200000820a040400000240008240000200000400488000400400080008002008010001000008080080001000041010000001000008000048200000080200440000001001080040000000008049
theorem ce_p927 : rk_M 2 ce_m927 := ce_st (b1 := 2) (T := ce_m911) (rem := []) (rows := [0, 3, 4, 10, 7, 8, 12, 15, 16, 18, 23, 20, 24]) (cols := [3, 26, 6, 11, 8, 28, 13, 14, 19, 16, 5, 22, 20, 25, 30, 33, 34, 37]) (L := [(0, 2, [], [0, 14, 6, 3, 23, 11, 9, 5, 13, 18, 17, 25, 20], [0, 23, 14, 5, 3, 31, 18, 8, 6, 16, 25, 11, 32, 12, 35, 21, 28, 26], ce_m916), (1, 2, [(5, 11, 5)], [0, 4, 16, 7, 9, 25, 3, 13, 11, 14, 21, 19, 22], [0, 0, 24, 9, 5, 14, 6, 20, 18, 2, 26, 0, 29, 11, 17, 35, 22, 30], ce_m916), (2, 2, [], [0, 5, 17, 6, 8, 24, 2, 12, 10, 15, 20, 18, 23], [0, 0, 0, 8, 4, 32, 7, 21, 19, 3, 27, 14, 28, 10, 16, 34, 23, 31], ce_m916), (5, 2, [], [0, 4, 3, 10, 8, 7, 15, 12, 16, 18, 20, 23, 24], [0, 0, 0, 8, 11, 0, 14, 13, 16, 19, 4, 22, 21, 24, 33, 30, 37, 34], ce_m911)]) (by decide +kernel) ce_p911 (ce_pc ce_p916 (ce_pc ce_p916 (ce_pc ce_p916 (ce_pc ce_p911 ce_pn))))
def ce_m928 : Nat → Nat → Int := ce_F 13 18 0x11248000000000048048000000200040480040000000281008000000000052008000009000400040001008008000200200000009000200400402000040080080040000040000000091040000000010208040000000000049
theorem ce_p928 : rk_M 2 ce_m928 := ce_st (b1 := 2) (T := ce_m914) (rem := []) (rows := [0, 2, 5, 8, 13, 21, 6, 11, 14, 17, 18, 22, 25]) (cols := [8, 37, 13, 2, 11, 6, 14, 5, 17, 19, 20, 28, 25, 22, 27, 33, 30, 35]) (L := [(0, 2, [], [0, 18, 3, 24, 16, 12, 14, 5, 9, 11, 6, 23, 21], [0, 32, 23, 28, 5, 10, 2, 18, 16, 6, 9, 15, 31, 20, 13, 25, 34, 26], ce_m919), (1, 2, [], [0, 2, 19, 17, 25, 13, 4, 15, 9, 7, 10, 22, 20], [0, 0, 32, 4, 29, 10, 19, 3, 16, 6, 9, 30, 14, 12, 21, 35, 24, 27], ce_m919), (2, 2, [], [0, 3, 4, 7, 10, 20, 9, 12, 15, 16, 19, 25, 22], [0, 0, 0, 9, 12, 7, 15, 4, 18, 16, 21, 27, 22, 25, 28, 33, 30, 36], ce_m914)]) (by decide +kernel) ce_p914 (ce_pc ce_p919 (ce_pc ce_p919 (ce_pc ce_p914 ce_pn)))
def ce_m929 : Nat → Nat → Int := ce_F 13 17 0x2288000002200010400011440040009000200201001040200040012088000000011000440000080010040080002002001002000000041000048000001040001201040000002040000000088200000000080201
theorem ce_p929 : rk_M 2 ce_m929 := ce_st (b1 := 2) (T := ce_m917) (rem := []) (rows := [0, 3, 4, 10, 7, 14, 8, 12, 16, 21, 18, 22, 24]) (cols := [8, 19, 3, 32, 5, 6, 35, 12, 11, 16, 15, 21, 22, 24, 26, 31, 29]) (L := [(0, 2, [], [0, 3, 14, 19, 5, 10, 6, 8, 12, 21, 16, 22, 24], [0, 21, 3, 23, 5, 6, 32, 12, 9, 18, 11, 15, 28, 16, 30, 27, 25], ce_m922), (6, 2, [(4, 15, 3)], [0, 3, 4, 10, 7, 14, 8, 12, 16, 21, 18, 22, 24], [0, 19, 3, 31, 5, 6, 0, 12, 11, 16, 15, 21, 22, 24, 26, 0, 29], ce_m917), (3, 2, [], [0, 3, 4, 10, 7, 14, 8, 12, 16, 21, 18, 22, 24], [0, 19, 3, 0, 5, 6, 0, 12, 11, 16, 15, 21, 22, 24, 26, 31, 29], ce_m917)]) (by decide +kernel) ce_p917 (ce_pc ce_p922 (ce_pc ce_p917 (ce_pc ce_p917 ce_pn)))
def ce_m930 : Nat → Nat → Int := ce_F 14 20 0x20004800000004004100020000004000820100000004028000004200000021000000840000005000000008800000101004000100000028000800000100004040100100000000a000200001000400200040008002001000008008000000009040200000000040208200
theorem ce_p930 : rk_M 2 ce_m930 := ce_st (b1 := 2) (T := ce_m926) (rem := [(1, 3, 1)]) (rows := [0, 2, 16, 4, 19, 12, 9, 21, 10, 6, 15, 22, 24, 26]) (cols := [17, 12, 8, 0, 20, 18, 2, 15, 4, 10, 23, 32, 6, 38, 28, 26, 36, 24, 30, 34]) (L := [(3, 2, [], [0, 26, 2, 9, 7, 11, 4, 13, 21, 23, 25, 14, 16, 18], [10, 2, 8, 0, 5, 35, 28, 30, 37, 33, 39, 16, 12, 18, 20, 14, 22, 6, 24, 26], ce_m925), (5, 2, [], [0, 3, 26, 13, 15, 7, 5, 17, 24, 9, 10, 20, 23, 18], [9, 37, 22, 0, 11, 0, 5, 35, 7, 3, 33, 15, 28, 21, 12, 16, 31, 27, 24, 19], ce_m928), (7, 2, [], [0, 2, 14, 4, 27, 6, 12, 16, 9, 24, 11, 20, 18, 23], [36, 8, 22, 0, 10, 0, 2, 0, 6, 4, 32, 12, 28, 31, 15, 16, 21, 27, 19, 24], ce_m928), (10, 2, [], [0, 27, 9, 2, 11, 7, 13, 4, 20, 25, 23, 16, 14, 18], [5, 2, 8, 0, 10, 0, 35, 0, 30, 39, 0, 12, 16, 20, 18, 22, 14, 24, 6, 26], ce_m925)]) (by decide +kernel) ce_p926 (ce_pc ce_p925 (ce_pc ce_p928 (ce_pc ce_p928 (ce_pc ce_p925 ce_pn))))
def ce_m931 : Nat → Nat → Int := ce_F 14 19 0xa24021000000008a048400000000402000010200001002000408000002000010401000008000410000001010010000440000040400010000040048000000401000009000000050000001200010200000000240048000000000048041000000000008241
theorem ce_p931 : rk_M 2 ce_m931 := ce_st (b1 := 2) (T := ce_m924) (rem := []) (rows := [0, 4, 2, 7, 9, 19, 13, 17, 11, 15, 21, 23, 24, 26]) (cols := [5, 12, 9, 6, 2, 11, 20, 16, 18, 14, 23, 27, 25, 29, 31, 33, 37, 35, 39]) (L := [(0, 2, [], [0, 6, 5, 10, 13, 2, 22, 16, 25, 15, 19, 9, 26, 20], [0, 6, 26, 23, 3, 29, 9, 16, 10, 15, 21, 30, 18, 33, 12, 4, 36, 35, 24], ce_m927), (2, 2, [], [0, 11, 9, 20, 22, 18, 4, 14, 2, 12, 6, 16, 24, 27], [0, 23, 0, 5, 21, 25, 19, 7, 17, 3, 32, 14, 34, 12, 27, 29, 10, 8, 30], ce_m929), (3, 2, [], [0, 6, 5, 10, 13, 2, 16, 22, 15, 25, 9, 19, 20, 26], [0, 6, 0, 0, 3, 22, 16, 9, 15, 10, 30, 21, 33, 18, 4, 12, 37, 34, 25], ce_m927), (5, 2, [], [0, 4, 2, 7, 9, 19, 13, 17, 11, 15, 21, 23, 24, 26], [0, 12, 0, 0, 2, 0, 20, 16, 18, 14, 23, 27, 25, 29, 31, 33, 37, 35, 39], ce_m924)]) (by decide +kernel) ce_p924 (ce_pc ce_p927 (ce_pc ce_p929 (ce_pc ce_p927 (ce_pc ce_p924 ce_pn))))
def ce_m932 : Nat → Nat → Int := ce_F 15 20 0x20004800000020004100020000020000820100000020028000001000800021000008004000005000000220000000101001000100000028008000000100004040001100000000a000080001002001002000008000400200400008000000009040080000000040208080000000000001089
theorem ce_p932 : rk_M 2 ce_m932 := ce_st (b1 := 2) (T := ce_m930) (rem := []) (rows := [0, 2, 4, 7, 9, 15, 17, 11, 13, 18, 20, 22, 24, 26, 28]) (cols := [3, 5, 9, 6, 11, 22, 20, 12, 14, 18, 16, 34, 32, 30, 28, 26, 24, 36, 38, 40]) (L := [(0, 2, [], [0, 17, 14, 20, 19, 26, 25, 29, 22, 3, 11, 4, 8, 7, 12], [0, 37, 35, 11, 38, 14, 29, 13, 2, 17, 26, 19, 24, 30, 32, 22, 21, 6, 9, 4], ce_m931), (1, 2, [], [0, 14, 17, 26, 29, 25, 19, 22, 20, 11, 4, 2, 13, 9, 6], [0, 0, 35, 10, 37, 2, 14, 29, 26, 13, 17, 25, 33, 18, 20, 31, 23, 5, 7, 8], ce_m931), (2, 2, [], [0, 14, 17, 19, 20, 25, 26, 22, 29, 2, 4, 11, 7, 8, 12], [0, 0, 0, 11, 35, 29, 14, 2, 13, 26, 17, 24, 19, 32, 30, 21, 22, 9, 6, 4], ce_m931), (4, 2, [], [0, 2, 4, 7, 9, 15, 17, 11, 13, 18, 20, 22, 24, 26, 28], [0, 0, 0, 6, 0, 22, 20, 12, 14, 18, 16, 34, 32, 30, 28, 26, 24, 36, 38, 40], ce_m930)]) (by decide +kernel) ce_p930 (ce_pc ce_p931 (ce_pc ce_p931 (ce_pc ce_p931 (ce_pc ce_p930 ce_pn))))
end
section
/-! the edge matrices over the sets 0 to 63: row s, column t -/
def ed_pc (s : Nat) : Nat := s % 2 + s / 2 % 2 + s / 4 % 2 + s / 8 % 2 + s / 16 % 2 + s / 32 % 2
def ed_en (s t : Nat) : Int := if s &&& t = s ∧ ed_pc t = ed_pc s + 1 then dt_sg (ed_pc (t % (t ^^^ s))) else 0
def ed_D (k s t : Nat) : Int := if s < 64 ∧ t < 64 ∧ 1 ≤ k ∧ ed_pc t = k + 1 then ed_en s t else 0
theorem ed_D_out {k s t : Nat} (h : 64 ≤ s ∨ 64 ≤ t) : ed_D k s t = 0 := by
  unfold ed_D
  rw [if_neg (by omega)]
theorem ed_M1 : rk_M 1 (ed_D 1) := ce_ck_ok (R := 64) (C := 64) (rows := [0, 2, 5, 0, 7, 0, 0, 0, 9, 0, 0, 0, 0, 0, 0, 0, 11, 0, 0, 0, 0, 0, 0, 0, 0, 0, 0, 0, 0, 0, 0, 0, 13, 0, 0, 0, 0, 0, 0, 0, 0, 0, 0, 0, 0, 0, 0, 0, 0, 0, 0, 0, 0, 0, 0, 0, 0, 0, 0, 0, 0, 0, 0, 0]) (cols := [0, 0, 0, 9, 0, 7, 18, 0, 0, 5, 16, 0, 24, 0, 0, 0, 0, 3, 14, 0, 22, 0, 0, 0, 28, 0, 0, 0, 0, 0, 0, 0, 0, 11, 12, 0, 20, 0, 0, 0, 26, 0, 0, 0, 0, 0, 0, 0, 30, 0, 0, 0, 0, 0, 0, 0, 0, 0, 0, 0, 0, 0, 0, 0]) (T := ce_m148) ce_p148 [] (ed_D 1) (fun _ _ h => ed_D_out h) (by decide +kernel)
theorem ed_M2 : rk_M 2 (ed_D 2) := ce_ck_ok (R := 64) (C := 64) (rows := [0, 0, 0, 2, 0, 5, 6, 0, 0, 9, 10, 0, 21, 0, 0, 0, 0, 15, 18, 0, 25, 0, 0, 0, 29, 0, 0, 0, 0, 0, 0, 0, 0, 17, 12, 0, 22, 0, 0, 0, 26, 0, 0, 0, 0, 0, 0, 0, 31, 0, 0, 0, 0, 0, 0, 0, 0, 0, 0, 0, 0, 0, 0, 0]) (cols := [0, 0, 0, 0, 0, 0, 0, 7, 0, 0, 0, 4, 0, 17, 18, 0, 0, 0, 0, 10, 0, 13, 20, 0, 0, 25, 35, 0, 39, 0, 0, 0, 0, 0, 0, 2, 0, 23, 14, 0, 0, 32, 26, 0, 36, 0, 0, 0, 0, 31, 29, 0, 41, 0, 0, 0, 9, 0, 0, 0, 0, 0, 0, 0]) (T := ce_m932) ce_p932 [] (ed_D 2) (fun _ _ h => ed_D_out h) (by decide +kernel)
theorem ed_M3 : rk_M 2 (ed_D 3) := ce_ck_ok (R := 64) (C := 64) (rows := [0, 0, 0, 0, 0, 0, 0, 8, 0, 0, 0, 41, 0, 28, 31, 0, 0, 0, 0, 37, 0, 26, 33, 0, 0, 15, 23, 0, 3, 0, 0, 0, 0, 0, 0, 39, 0, 34, 25, 0, 0, 20, 12, 0, 10, 0, 0, 0, 0, 19, 17, 0, 5, 0, 0, 0, 7, 0, 0, 0, 0, 0, 0, 0]) (cols := [0, 0, 0, 0, 0, 0, 0, 0, 0, 0, 0, 0, 0, 0, 0, 31, 0, 0, 0, 0, 0, 0, 0, 27, 0, 0, 0, 22, 0, 13, 17, 0, 0, 0, 0, 0, 0, 0, 0, 29, 0, 0, 0, 24, 0, 18, 14, 0, 0, 0, 0, 21, 0, 11, 9, 0, 0, 6, 4, 0, 2, 0, 0, 0]) (T := (fun i j => ce_m932 j i)) (rk_M_tr ce_p932) [] (ed_D 3) (fun _ _ h => ed_D_out h) (by decide +kernel)
theorem ed_M4 : rk_M 1 (ed_D 4) := ce_ck_ok (R := 64) (C := 64) (rows := [0, 0, 0, 0, 0, 0, 0, 0, 0, 0, 0, 0, 0, 0, 0, 30, 0, 0, 0, 0, 0, 0, 0, 27, 0, 0, 0, 20, 0, 13, 11, 0, 0, 0, 0, 0, 0, 0, 0, 28, 0, 0, 0, 23, 0, 14, 2, 0, 0, 0, 0, 24, 0, 17, 5, 0, 0, 18, 6, 0, 9, 0, 0, 0]) (cols := [0, 0, 0, 0, 0, 0, 0, 0, 0, 0, 0, 0, 0, 0, 0, 0, 0, 0, 0, 0, 0, 0, 0, 0, 0, 0, 0, 0, 0, 0, 0, 13, 0, 0, 0, 0, 0, 0, 0, 0, 0, 0, 0, 0, 0, 0, 0, 10, 0, 0, 0, 0, 0, 0, 0, 9, 0, 0, 0, 6, 0, 5, 3, 0]) (T := (fun i j => ce_m148 j i)) (rk_M_tr ce_p148) [] (ed_D 4) (fun _ _ h => ed_D_out h) (by decide +kernel)
theorem ed_M5 : rk_M 1 (ed_D 5) := ce_ck_ok (R := 64) (C := 64) (rows := []) (cols := []) (T := fun _ _ => 0) ce_nil [(3, 61, 62), (2, 59, 62), (3, 55, 62), (2, 47, 62), (3, 31, 62), (0, 62, 63)] (ed_D 5) (fun _ _ h => ed_D_out h) (by decide +kernel)
theorem ed_pc_le (t : Nat) : ed_pc t ≤ 6 := by unfold ed_pc; omega
theorem ed_M (k : Nat) : rk_M 2 (ed_D k) := by
  match k with
  | 0 =>
    have e : ed_D 0 = fun _ _ => 0 := by
      funext s t
      unfold ed_D
      rw [if_neg (by omega)]
    rw [e]
    exact ce_le (by decide) ce_nil
  | 1 => exact ce_le (by decide) ed_M1
  | 2 => exact ed_M2
  | 3 => exact ed_M3
  | 4 => exact ce_le (by decide) ed_M4
  | 5 => exact ce_le (by decide) ed_M5
  | k + 6 =>
    have e : ed_D (k + 6) = fun _ _ => 0 := by
      funext s t
      unfold ed_D
      have := ed_pc_le t
      rw [if_neg (by omega)]
    rw [e]
    exact ce_le (by decide) ce_nil
/-- the edge matrix of the sets S alone -/
def ed_S (S : Nat → Bool) (k s t : Nat) : Int := if S s = true ∧ S t = true then ed_D k s t else 0
theorem ed_SM (S : Nat → Bool) (k : Nat) : rk_M 2 (ed_S S k) := by
  have z : ∀ s : Nat, (if S s = true then (1 : Int) else 0) = 1 ∨ (if S s = true then (1 : Int) else 0) = -1 ∨ (if S s = true then (1 : Int) else 0) = 0 := by
    intro s
    split
    · exact Or.inl rfl
    · exact Or.inr (Or.inr rfl)
  have h2 : rk_M 2 (fun s t => (if S t = true then (1 : Int) else 0) * ed_D k s t) := rk_M_cols (fun t => if S t = true then (1 : Int) else 0) (fun t => t) z (fun _ _ => rfl) (ed_M k)
  refine rk_M_rows (fun s => if S s = true then (1 : Int) else 0) (fun s => s) z (fun s t => ?_) h2
  show ed_S S k s t = (if S s = true then (1 : Int) else 0) * ((if S t = true then (1 : Int) else 0) * ed_D k s t)
  unfold ed_S
  by_cases hs : S s = true
  · by_cases ht : S t = true
    · rw [if_pos ⟨hs, ht⟩, if_pos hs, if_pos ht, Int.one_mul, Int.one_mul]
    · rw [if_neg (fun h => ht h.2), if_neg ht, Int.zero_mul, Int.mul_zero]
  · rw [if_neg (fun h => hs h.1), if_neg hs, Int.zero_mul]
theorem ed_S_out {S : Nat → Bool} {k s t : Nat} (h : 64 ≤ s ∨ 64 ≤ t) : ed_S S k s t = 0 := by
  unfold ed_S
  rw [ed_D_out h]
  split <;> rfl
end
section
/-! primes -/
theorem li_p0 : rk_P 0 := by
  refine ⟨fun a b h => ?_, by decide⟩
  rw [Int.zero_dvd] at h ⊢
  rw [Int.zero_dvd]
  exact Int.mul_eq_zero.mp h
theorem li_pp {p : Nat} (h1 : 1 < p) (h : ∀ r, r < p → 0 < r → Nat.gcd r p = 1) : rk_P (p : Int) := by
  constructor
  · intro a b hab
    rw [Int.ofNat_dvd_left] at hab ⊢
    rw [Int.ofNat_dvd_left]
    rw [Int.natAbs_mul] at hab
    by_cases ha : p ∣ a.natAbs
    · exact Or.inl ha
    · right
      have hr : 0 < a.natAbs % p := Nat.pos_of_ne_zero (fun z => ha (Nat.dvd_of_mod_eq_zero z))
      have hg : Nat.Coprime p a.natAbs := by
        show Nat.gcd p a.natAbs = 1
        rw [Nat.gcd_rec]
        exact h _ (Nat.mod_lt _ (by omega)) hr
      exact hg.dvd_of_dvd_mul_left hab
  · intro z
    rw [Int.ofNat_dvd_left] at z
    have := Nat.le_of_dvd (by decide) z
    have e : (1 : Int).natAbs = 1 := rfl
    omega
theorem li_p2 : rk_P 2 := li_pp (p := 2) (by decide) (by decide)
theorem li_p3 : rk_P 3 := li_pp (p := 3) (by decide) (by decide)
theorem li_p5 : rk_P 5 := li_pp (p := 5) (by decide) (by decide)
theorem li_p1031 : rk_P 1031 := li_pp (p := 1031) (by decide) (by decide +kernel)
/-! chains closed modulo 2 and closed chains -/
def li_dot (W : Nat → Nat → Int) (x : Nat → Int) (i : Nat) : Int := dt_sum 64 (fun j => W i j * x j)
def li_K (W : Nat → Nat → Int) : Prop := ∀ x : Nat → Int, (∀ i, (2 : Int) ∣ li_dot W x i) → ∃ y : Nat → Int, (∀ j, (2 : Int) ∣ y j - x j) ∧ ∀ i, li_dot W y i = 0
theorem li_split (f : Nat → Int) {c : Nat} : ∀ {n : Nat}, c < n → dt_sum n f = f c + dt_sum n (fun j => if j = c then 0 else f j) := by
  intro n
  induction n with
  | zero => intro h; omega
  | succ n ih =>
    intro h
    rw [dt_sum_s, dt_sum_s]
    by_cases e : n = c
    · subst e
      rw [if_pos rfl, dt_sum_congr (f := fun j => if j = n then 0 else f j) (g := f) (fun k hk => by rw [if_neg (by omega)])]
      omega
    · rw [ih (by omega), if_neg e]; omega
/-- x with another value at c -/
def li_at (x : Nat → Int) (c : Nat) (v : Int) : Nat → Int := fun j => if j = c then v else x j
theorem li_dot_at (W : Nat → Nat → Int) (x : Nat → Int) {c : Nat} (hc : c < 64) (v : Int) (i : Nat) : li_dot W (li_at x c v) i = W i c * v + dt_sum 64 (fun j => if j = c then 0 else W i j * x j) := by
  unfold li_dot
  rw [li_split (fun j => W i j * li_at x c v j) hc]
  congr 1
  · show W i c * (if c = c then v else x c) = _
    rw [if_pos rfl]
  · refine dt_sum_congr (fun j _ => ?_)
    show (if j = c then 0 else W i j * (if j = c then v else x j)) = _
    by_cases h : j = c
    · rw [if_pos h, if_pos h]
    · rw [if_neg h, if_neg h, if_neg h]
/-- the steps at a unit entry: V is W less multiples of row p -/
theorem li_step {W V : Nat → Nat → Int} {p c : Nat} (hc : c < 64) (hu : W p c = 1 ∨ W p c = -1) (hV : ∀ i j, V i j = W i j - W p c * W i c * W p j) : li_K W ↔ li_K V := by
  have hVc : ∀ i, V i c = 0 := by
    intro i
    rw [hV]
    rcases hu with u | u <;> rw [u] <;> omega
  have hd : ∀ x i, li_dot V x i = li_dot W x i - W p c * W i c * li_dot W x p := by
    intro x i
    unfold li_dot
    rw [Int.sub_eq_add_neg, ← Int.neg_mul, ← dt_sum_mul, ← dt_sum_add]
    refine dt_sum_congr (fun j _ => ?_)
    rw [hV]
    grind
  have hVat : ∀ x v i, li_dot V (li_at x c v) i = li_dot V x i := by
    intro x v i
    rw [li_dot_at V x hc, hVc, Int.zero_mul, Int.zero_add]
    unfold li_dot
    refine dt_sum_congr (fun j _ => ?_)
    by_cases h : j = c
    · rw [if_pos h, h, hVc, Int.zero_mul]
    · rw [if_neg h]
  have hback : ∀ x, li_dot W x p = 0 → (∀ i, li_dot V x i = 0) → ∀ i, li_dot W x i = 0 := by
    intro x h0 hx i
    have := hd x i
    rw [hx i, h0, Int.mul_zero] at this
    omega
  constructor
  · intro h x hx
    have e0 : li_dot W (li_at x c (- W p c * dt_sum 64 (fun j => if j = c then 0 else W p j * x j))) p = 0 := by
      rw [li_dot_at W x hc]
      generalize dt_sum 64 (fun j => if j = c then 0 else W p j * x j) = s
      rcases hu with u | u <;> rw [u] <;> omega
    obtain ⟨y, hy1, hy2⟩ := h (li_at x c (- W p c * dt_sum 64 (fun j => if j = c then 0 else W p j * x j))) (fun i => by
      have := hd (li_at x c (- W p c * dt_sum 64 (fun j => if j = c then 0 else W p j * x j))) i
      rw [hVat, e0, Int.mul_zero] at this
      have h2 := hx i
      rw [this] at h2
      rwa [Int.sub_zero] at h2)
    refine ⟨li_at y c (x c), fun j => ?_, fun i => ?_⟩
    · show (2 : Int) ∣ (if j = c then x c else y j) - x j
      by_cases hj : j = c
      · rw [if_pos hj, hj, Int.sub_self]; exact Int.dvd_zero 2
      · rw [if_neg hj]
        have := hy1 j
        unfold li_at at this
        rwa [if_neg hj] at this
    · rw [hVat, hd, hy2, hy2, Int.mul_zero]; rfl
  · intro h x hx
    obtain ⟨y, hy1, hy2⟩ := h x (fun i => by
      rw [hd, Int.sub_eq_add_neg, ← Int.neg_mul]
      exact Int.dvd_add (hx i) (rk_dm _ (hx p)))
    refine ⟨li_at y c (- W p c * dt_sum 64 (fun j => if j = c then 0 else W p j * y j)), fun j => ?_, ?_⟩
    · show (2 : Int) ∣ (if j = c then - W p c * dt_sum 64 (fun j => if j = c then 0 else W p j * y j) else y j) - x j
      by_cases hj : j = c
      · rw [if_pos hj, hj]
        have hp := hx p
        have e1 : li_dot W x p = W p c * x c + dt_sum 64 (fun j => if j = c then 0 else W p j * x j) := by
          unfold li_dot
          exact li_split (fun j => W p j * x j) hc
        have e2 : (2 : Int) ∣ dt_sum 64 (fun j => if j = c then 0 else W p j * y j) - dt_sum 64 (fun j => if j = c then 0 else W p j * x j) := by
          rw [Int.sub_eq_add_neg, ← dt_sum_neg, ← dt_sum_add]
          refine dt_sum_dvd (fun k _ => ?_)
          by_cases hk : k = c
          · rw [if_pos hk, if_pos hk]; decide
          · rw [if_neg hk, if_neg hk]
            have e3 : W p k * y k + - (W p k * x k) = W p k * (y k - x k) := by grind
            rw [e3]
            exact rk_dm _ (hy1 k)
        rw [e1] at hp
        generalize dt_sum 64 (fun j => if j = c then 0 else W p j * y j) = s at *
        generalize dt_sum 64 (fun j => if j = c then 0 else W p j * x j) = t at *
        rcases hu with u | u <;> rw [u] at hp ⊢ <;> omega
      · rw [if_neg hj]; exact hy1 j
    · refine hback _ ?_ (fun i => by rw [hVat]; exact hy2 i)
      rw [li_dot_at W y hc]
      generalize dt_sum 64 (fun j => if j = c then 0 else W p j * y j) = s
      rcases hu with u | u <;> rw [u] <;> omega
theorem li_re {W V : Nat → Nat → Int} (σ : Nat → Nat) (hσ : ∀ i, σ (σ i) = i) (hV : ∀ i j, V i j = W (σ i) j) : li_K W ↔ li_K V := by
  have hd : ∀ x i, li_dot V x i = li_dot W x (σ i) := fun x i => dt_sum_congr (fun j _ => by rw [hV])
  have hd2 : ∀ x i, li_dot W x i = li_dot V x (σ i) := fun x i => by rw [hd, hσ]
  constructor
  · intro h x hx
    obtain ⟨y, h1, h2⟩ := h x (fun i => by rw [hd2]; exact hx _)
    exact ⟨y, h1, fun i => by rw [hd]; exact h2 _⟩
  · intro h x hx
    obtain ⟨y, h1, h2⟩ := h x (fun i => by rw [hd]; exact hx _)
    exact ⟨y, h1, fun i => by rw [hd2]; exact h2 _⟩
/-- no entry is odd -/
theorem li_even {W : Nat → Nat → Int} (hM : rk_M 2 W) (he : ∀ i j, ¬ (W i j = 1 ∨ W i j = -1)) (i j : Nat) : W i j = 0 ∨ W i j = 2 ∨ W i j = -2 := by
  have := rk_M_e hM i j
  have := he i j
  omega
theorem li_four {n : Nat} {f : Nat → Int} (h : ∀ k, k < n → ∃ z, f k = 4 * z) : ∃ z, dt_sum n f = 4 * z := by
  induction n with
  | zero => exact ⟨0, rfl⟩
  | succ n ih =>
    obtain ⟨z, hz⟩ := ih (fun k hk => h k (by omega))
    obtain ⟨w, hw⟩ := h n (by omega)
    exact ⟨z + w, by rw [dt_sum_s, hz, hw]; omega⟩
theorem li_main : ∀ (m : Nat) (W : Nat → Nat → Int), rk_M 2 W → (∀ i j, m ≤ i ∨ 64 ≤ j → W i j = 0) → ∃ r0 r2, rk_R 0 W r0 ∧ rk_R 2 W r2 ∧ (li_K W ↔ r0 = r2) := by
  intro m
  induction m with
  | zero =>
    intro W _ ho
    have hz : ∀ i j, W i j = 0 := fun i j => ho i j (by omega)
    refine ⟨0, 0, rk_R_zero li_p0 (fun i j => by rw [hz]; exact Int.dvd_zero _), rk_R_zero li_p2 (fun i j => by rw [hz]; exact Int.dvd_zero _), fun _ => rfl, fun _ x _ => ⟨x, fun j => by rw [Int.sub_self]; exact Int.dvd_zero _, fun i => dt_sum_zero (fun j _ => by rw [hz, Int.zero_mul])⟩⟩
  | succ m ih =>
    intro W hM ho
    by_cases hodd : ∃ p c, W p c = 1 ∨ W p c = -1
    · obtain ⟨p, c, hu⟩ := hodd
      have hp : p < m + 1 := by
        apply Classical.byContradiction
        intro z
        have := ho p c (by omega)
        omega
      have hc : c < 64 := by
        apply Classical.byContradiction
        intro z
        have := ho p c (by omega)
        omega
      -- the matrix behind the step, its row p changed with row m
      let σ : Nat → Nat := fun i => if i = p then m else if i = m then p else i
      have hσ : ∀ i, σ (σ i) = i := by
        intro i
        show (if (if i = p then m else if i = m then p else i) = p then m else if (if i = p then m else if i = m then p else i) = m then p else (if i = p then m else if i = m then p else i)) = i
        repeat' split
        all_goals omega
      let V : Nat → Nat → Int := fun i j => W i j - W p c * W i c * W p j
      have hV : ∀ i j, V i j = W i j - W p c * W i c * W p j := fun _ _ => rfl
      have hV2 : ∀ i j, W p c * V i j = W p c * W i j - W i c * W p j := by
        intro i j
        rw [hV]
        rcases hu with u | u <;> rw [u] <;> grind
      have hVp : ∀ j, V p j = 0 := by
        intro j
        rw [hV]
        rcases hu with u | u <;> rw [u] <;> omega
      have hMV : rk_M 2 V := rk_M_unit hu hV2 hM
      have hVo : ∀ i j, m + 1 ≤ i ∨ 64 ≤ j → V i j = 0 := by
        intro i j hij
        rw [hV, ho i j hij]
        rcases hij with hi | hj
        · rw [ho i c (Or.inl hi), Int.mul_zero, Int.zero_mul]; rfl
        · rw [ho p j (Or.inr hj), Int.mul_zero]; rfl
      let U : Nat → Nat → Int := fun i j => V (σ i) j
      have hMU : rk_M 2 U := rk_M_rows (fun _ => 1) σ (fun _ => Or.inl rfl) (fun i j => (Int.one_mul _).symm) hMV
      obtain ⟨r0, r2, h0, h2, hk⟩ := ih U hMU (by
        intro i j hij
        show V (σ i) j = 0
        rcases hij with hi | hj
        · by_cases him : i = m
          · have e : σ i = p ∨ σ i = m + 1 ∨ σ i = m := by
              show (if i = p then m else if i = m then p else i) = p ∨ _ ∨ (if i = p then m else if i = m then p else i) = m
              repeat' split
              all_goals omega
            by_cases hip : i = p
            · have : σ i = p := by
                show (if i = p then m else if i = m then p else i) = p
                rw [if_pos hip]; omega
              rw [this]; exact hVp j
            · have : σ i = p := by
                show (if i = p then m else if i = m then p else i) = p
                rw [if_neg hip, if_pos him]
              rw [this]; exact hVp j
          · have : σ i = i := by
              show (if i = p then m else if i = m then p else i) = i
              repeat' split
              all_goals omega
            rw [this]
            exact hVo i j (Or.inl (by omega))
        · exact hVo _ j (Or.inr hj))
      have n0 : ¬ (0 : Int) ∣ W p c := by rw [Int.zero_dvd]; omega
      have n2 : ¬ (2 : Int) ∣ W p c := by omega
      have r0V : rk_R 0 V r0 := rk_R_re σ (fun j => j) σ (fun j => j) (fun i j => rfl) (fun i j => by show V i j = V (σ (σ i)) j; rw [hσ]) h0
      have r2V : rk_R 2 V r2 := rk_R_re σ (fun j => j) σ (fun j => j) (fun i j => rfl) (fun i j => by show V i j = V (σ (σ i)) j; rw [hσ]) h2
      refine ⟨r0 + 1, r2 + 1, rk_R_V li_p0 n0 n0 hV2 r0V, rk_R_V li_p2 n2 n2 hV2 r2V, ?_⟩
      rw [li_step hc hu hV, li_re σ hσ (V := U) (fun _ _ => rfl), hk]
      omega
    · have he : ∀ i j, ¬ (W i j = 1 ∨ W i j = -1) := fun i j z => hodd ⟨i, j, z⟩
      have hev := li_even hM he
      have z2 : rk_R 2 W 0 := rk_R_zero li_p2 (fun i j => by rcases hev i j with u | u | u <;> rw [u] <;> decide)
      by_cases hz : ∀ i j, W i j = 0
      · refine ⟨0, 0, rk_R_zero li_p0 (fun i j => by rw [hz]; exact Int.dvd_zero _), z2, fun _ => rfl, fun _ x _ => ⟨x, fun j => by rw [Int.sub_self]; exact Int.dvd_zero _, fun i => dt_sum_zero (fun j _ => by rw [hz, Int.zero_mul])⟩⟩
      · obtain ⟨p, hp⟩ := Classical.not_forall.mp hz
        obtain ⟨c, hpc⟩ := Classical.not_forall.mp hp
        have hc : c < 64 := Classical.byContradiction fun z => hpc (ho p c (by omega))
        have hpc2 : W p c = 2 ∨ W p c = -2 := by have := hev p c; omega
        -- the rank at 0 is one: all two-row minors are 0
        have s0 : ∀ i j, rk_S W p c i j = 0 := by
          intro i j
          have b := hM 2 (fun a => if a = 0 then p else i) (fun a => if a = 0 then c else j)
          rw [rk_2] at b
          have b' : -2 ≤ W p c * W i j - W i c * W p j ∧ W p c * W i j - W i c * W p j ≤ 2 := b
          show W p c * W i j - W i c * W p j = 0
          have h1 := hev i j
          have h2 := hev i c
          have h3 := hev p j
          rcases hpc2 with u | u <;> rcases h1 with v | v | v <;> rcases h2 with w | w | w <;> rcases h3 with y | y | y <;> rw [u, v, w, y] at b' ⊢ <;> omega
        have n0 : ¬ (0 : Int) ∣ W p c := by rw [Int.zero_dvd]; omega
        refine ⟨1, 0, rk_R_S li_p0 n0 (rk_R_zero li_p0 (fun i j => by rw [s0]; exact Int.dvd_zero _)), z2, fun hK => ?_, fun z => absurd z (by omega)⟩
        exfalso
        obtain ⟨y, hy1, hy2⟩ := hK (li_at (fun _ => 0) c 1) (fun i => dt_sum_dvd (fun j _ => by
          rw [Int.mul_comm]
          exact rk_dm _ (by rcases hev i j with u | u | u <;> rw [u] <;> decide)))
        have e := hy2 p
        have e1 : li_dot W y p = W p c * y c + dt_sum 64 (fun j => if j = c then 0 else W p j * y j) := by
          unfold li_dot
          exact li_split (fun j => W p j * y j) hc
        obtain ⟨z, hz4⟩ := li_four (n := 64) (f := fun j => if j = c then 0 else W p j * y j) (fun k _ => by
          by_cases hk : k = c
          · exact ⟨0, by rw [if_pos hk]; rfl⟩
          · rw [if_neg hk]
            have hyk := hy1 k
            unfold li_at at hyk
            rw [if_neg hk, Int.sub_zero] at hyk
            obtain ⟨w, hw⟩ := hyk
            rcases hev p k with u | u | u
            · exact ⟨0, by rw [u, Int.zero_mul]; rfl⟩
            · exact ⟨w, by rw [u, hw]; omega⟩
            · exact ⟨-w, by rw [u, hw]; omega⟩)
        have hyc := hy1 c
        unfold li_at at hyc
        rw [if_pos rfl] at hyc
        rw [e1, hz4] at e
        rcases hpc2 with u | u <;> rw [u] at e <;> omega
end
section
/-! what is left of a matrix from row r and column c on -/
def wi_w (A : Nat → Nat → Int) (r c : Nat) : Nat → Nat → Int := fun i j => if r ≤ i ∧ c ≤ j then A i j else 0
theorem wi_in {A : Nat → Nat → Int} {r c i j : Nat} (hi : r ≤ i) (hj : c ≤ j) : wi_w A r c i j = A i j := if_pos ⟨hi, hj⟩
theorem wi_out {A : Nat → Nat → Int} {r c i j : Nat} (h : i < r ∨ j < c) : wi_w A r c i j = 0 := if_neg (by omega)
theorem wi_V {A B : Nat → Nat → Int} {r c : Nat} {e : Int} (h : ∀ i j, r < i → c < j → e * B i j = A r c * A i j - A i c * A r j) (i j : Nat) : e * wi_w B (r + 1) (c + 1) i j = wi_w A r c r c * wi_w A r c i j - wi_w A r c i c * wi_w A r c r j := by
  rw [wi_in (Nat.le_refl r) (Nat.le_refl c)]
  by_cases hi : i < r
  · rw [wi_out (by omega), wi_out (Or.inl hi), wi_out (Or.inl hi), Int.mul_zero, Int.mul_zero, Int.zero_mul]; rfl
  by_cases hj : j < c
  · rw [wi_out (by omega), wi_out (Or.inr hj), wi_out (A := A) (i := r) (Or.inr hj), Int.mul_zero, Int.mul_zero, Int.mul_zero]; rfl
  rw [wi_in (A := A) (i := i) (j := j) (by omega) (by omega), wi_in (A := A) (i := i) (j := c) (by omega) (Nat.le_refl c), wi_in (A := A) (i := r) (j := j) (Nat.le_refl r) (by omega)]
  by_cases hi2 : i = r
  · rw [wi_out (by omega), hi2, Int.mul_zero, Int.sub_self]
  by_cases hj2 : j = c
  · rw [wi_out (by omega), hj2, Int.mul_zero, Int.mul_comm (A r c), Int.sub_self]
  rw [wi_in (by omega) (by omega)]
  exact h i j (by omega) (by omega)
theorem wi_Vm {A B : Nat → Nat → Int} {r c : Nat} {q : Int} (h : ∀ i j, r < i → c < j → q ∣ B i j - (A r c * A i j - A i c * A r j)) (i j : Nat) : q ∣ wi_w B (r + 1) (c + 1) i j - (wi_w A r c r c * wi_w A r c i j - wi_w A r c i c * wi_w A r c r j) := by
  by_cases hij : r < i ∧ c < j
  · rw [wi_in (by omega) (by omega), wi_in (Nat.le_refl r) (Nat.le_refl c), wi_in (A := A) (i := i) (j := j) (by omega) (by omega), wi_in (A := A) (i := i) (j := c) (by omega) (Nat.le_refl c), wi_in (A := A) (i := r) (j := j) (Nat.le_refl r) (by omega)]
    exact h i j hij.1 hij.2
  · have e := wi_V (A := A) (B := fun i j => A r c * A i j - A i c * A r j) (r := r) (c := c) (e := 1) (fun i j _ _ => Int.one_mul _) i j
    rw [Int.one_mul] at e
    rw [← e, wi_out (by omega), wi_out (by omega)]
    exact Int.dvd_zero q
/-- rows change places by σ, columns by τ -/
def wi_sw (a b i : Nat) : Nat := if i = a then b else if i = b then a else i
theorem wi_sw_sw (a b i : Nat) : wi_sw a b (wi_sw a b i) = i := by
  unfold wi_sw
  repeat' split
  all_goals omega
theorem wi_sw_ge {a b r i : Nat} (ha : r ≤ a) (hb : r ≤ b) : r ≤ wi_sw a b i ↔ r ≤ i := by
  unfold wi_sw
  repeat' split
  all_goals omega
theorem wi_sw_lt {a b r i : Nat} (ha : a < r) (hb : b < r) : wi_sw a b i < r ↔ i < r := by
  unfold wi_sw
  repeat' split
  all_goals omega
theorem wi_re {A B : Nat → Nat → Int} {r c : Nat} (σ τ : Nat → Nat) (hs : ∀ i, r ≤ σ i ↔ r ≤ i) (ht : ∀ j, c ≤ τ j ↔ c ≤ j) (h : ∀ i j, B i j = A (σ i) (τ j)) (i j : Nat) : wi_w B r c i j = wi_w A r c (σ i) (τ j) := by
  unfold wi_w
  by_cases hh : r ≤ i ∧ c ≤ j
  · rw [if_pos hh, if_pos ⟨(hs i).mpr hh.1, (ht j).mpr hh.2⟩, h]
  · rw [if_neg hh, if_neg (fun z => hh ⟨(hs i).mp z.1, (ht j).mp z.2⟩)]
theorem wi_R_re {q : Int} {W V : Nat → Nat → Int} {s : Nat} (σ τ : Nat → Nat) (hs : ∀ i, σ (σ i) = i) (ht : ∀ j, τ (τ j) = j) (h : ∀ i j, V i j = W (σ i) (τ j)) (hr : rk_R q V s) : rk_R q W s :=
  rk_R_re σ τ σ τ h (fun i j => by rw [h, hs, ht]) hr
theorem wi_M_re {b : Int} {W V : Nat → Nat → Int} (σ τ : Nat → Nat) (h : ∀ i j, V i j = W (σ i) (τ j)) (hm : rk_M b W) : rk_M b V := by
  intro n ρ γ
  rw [dt_det_ext (fun i j => h (ρ i) (γ j))]
  exact hm n (fun i => σ (ρ i)) (fun j => τ (γ j))
theorem wi_Q_re {d : Int} {W V : Nat → Nat → Int} (σ τ : Nat → Nat) (h : ∀ i j, V i j = W (σ i) (τ j)) (hm : rk_Q d W) : rk_Q d V := by
  intro n ρ γ
  rw [dt_det_ext (fun i j => h (ρ i) (γ j))]
  exact hm n (fun i => σ (ρ i)) (fun j => τ (γ j))
/-- a column without entries is left behind -/
theorem wi_col {A : Nat → Nat → Int} {r c : Nat} (h : ∀ i, r ≤ i → A i c = 0) : wi_w A r c = wi_w A r (c + 1) := by
  funext i j
  unfold wi_w
  by_cases hj : j = c
  · rw [if_neg (show ¬ (r ≤ i ∧ c + 1 ≤ j) by omega)]
    by_cases hi : r ≤ i ∧ c ≤ j
    · rw [if_pos hi, hj]; exact h i hi.1
    · rw [if_neg hi]
  · by_cases hi : r ≤ i ∧ c ≤ j
    · rw [if_pos hi, if_pos (by omega)]
    · rw [if_neg hi, if_neg (by omega)]
/-- small minors: the rank at q > 2 is the rank at 0 -/
theorem wi_Zq {q : Int} {W : Nat → Nat → Int} (hq : 2 < q) (hM : rk_M 2 W) (n : Nat) : rk_Z q n W ↔ rk_Z 0 n W := by
  constructor
  · intro z ρ γ
    have b := hM n ρ γ
    obtain ⟨k, hk⟩ := z ρ γ
    rw [Int.zero_dvd]
    rw [hk] at b ⊢
    by_cases k0 : k = 0
    · rw [k0, Int.mul_zero]
    · exfalso
      by_cases kp : 0 < k
      · have : q * 1 ≤ q * k := Int.mul_le_mul_of_nonneg_left (by omega) (by omega)
        rw [Int.mul_one] at this
        omega
      · have : q * k ≤ q * (-1) := Int.mul_le_mul_of_nonneg_left (by omega) (by omega)
        rw [Int.mul_neg, Int.mul_one] at this
        omega
  · intro z ρ γ
    have := z ρ γ
    rw [Int.zero_dvd] at this
    rw [this]
    exact Int.dvd_zero q
theorem wi_q0 {q : Int} {W : Nat → Nat → Int} {r : Nat} (hq : 2 < q) (hM : rk_M 2 W) (h : rk_R q W r) : rk_R 0 W r := fun n => (wi_Zq hq hM n).symm.trans (h n)
theorem wi_0q {q : Int} {W : Nat → Nat → Int} {r : Nat} (hq : 2 < q) (hM : rk_M 2 W) (h : rk_R 0 W r) : rk_R q W r := fun n => (wi_Zq hq hM n).trans (h n)
/-! whole numbers of 32 and 64 bits -/
theorem nu_b {x : Int} (h1 : -2147483648 ≤ x) (h2 : x < 2147483648) : x.bmod (2 ^ 32) = x := Int.bmod_eq_of_le_mul_two (by omega) (by omega)
theorem nu_B {x : Int} (h1 : -9223372036854775808 ≤ x) (h2 : x < 9223372036854775808) : x.bmod (2 ^ 64) = x := Int.bmod_eq_of_le_mul_two (by omega) (by omega)
theorem nu_mul {a b : Int32} (h1 : -2147483648 ≤ a.toInt * b.toInt) (h2 : a.toInt * b.toInt < 2147483648) : (a * b).toInt = a.toInt * b.toInt := by rw [Int32.toInt_mul, nu_b h1 h2]
theorem nu_sub {a b : Int32} (h1 : -2147483648 ≤ a.toInt - b.toInt) (h2 : a.toInt - b.toInt < 2147483648) : (a - b).toInt = a.toInt - b.toInt := by rw [Int32.toInt_sub, nu_b h1 h2]
theorem nu_neg {a : Int32} (h1 : -2147483648 ≤ - a.toInt) (h2 : - a.toInt < 2147483648) : (- a).toInt = - a.toInt := by rw [Int32.toInt_neg, nu_b h1 h2]
theorem nu_MUL {a b : Int64} (h1 : -9223372036854775808 ≤ a.toInt * b.toInt) (h2 : a.toInt * b.toInt < 9223372036854775808) : (a * b).toInt = a.toInt * b.toInt := by rw [Int64.toInt_mul, nu_B h1 h2]
theorem nu_SUB {a b : Int64} (h1 : -9223372036854775808 ≤ a.toInt - b.toInt) (h2 : a.toInt - b.toInt < 9223372036854775808) : (a - b).toInt = a.toInt - b.toInt := by rw [Int64.toInt_sub, nu_B h1 h2]
theorem nu_ADD {a b : Int64} (h1 : -9223372036854775808 ≤ a.toInt + b.toInt) (h2 : a.toInt + b.toInt < 9223372036854775808) : (a + b).toInt = a.toInt + b.toInt := by rw [Int64.toInt_add, nu_B h1 h2]
theorem nu_NEG {a : Int64} (h1 : -9223372036854775808 ≤ - a.toInt) (h2 : - a.toInt < 9223372036854775808) : (- a).toInt = - a.toInt := by rw [Int64.toInt_neg, nu_B h1 h2]
/-- products of small numbers are small -/
theorem nu_pr {a b m : Int} (ha : -m ≤ a) (ha2 : a ≤ m) (hb : -m ≤ b) (hb2 : b ≤ m) : -(m * m) ≤ a * b ∧ a * b ≤ m * m := by
  have hm : 0 ≤ m := by omega
  constructor
  · rcases Int.le_total 0 a with h | h
    · have h1 : a * (-m) ≤ a * b := Int.mul_le_mul_of_nonneg_left hb h
      have h2 : a * m ≤ m * m := Int.mul_le_mul_of_nonneg_right ha2 hm
      rw [Int.mul_neg] at h1
      omega
    · have h1 : a * m ≤ a * b := Int.mul_le_mul_of_nonpos_left h hb2
      have h2 : -m * m ≤ a * m := Int.mul_le_mul_of_nonneg_right ha hm
      rw [Int.neg_mul] at h2
      omega
  · rcases Int.le_total 0 a with h | h
    · have h1 : a * b ≤ a * m := Int.mul_le_mul_of_nonneg_left hb2 h
      have h2 : a * m ≤ m * m := Int.mul_le_mul_of_nonneg_right ha2 hm
      omega
    · have h1 : a * b ≤ a * (-m) := Int.mul_le_mul_of_nonpos_left h hb
      have h2 : -m * m ≤ a * m := Int.mul_le_mul_of_nonneg_right ha hm
      rw [Int.mul_neg] at h1
      rw [Int.neg_mul] at h2
      omega
end
section
/-! a diagonal, step by step: u units and w twos so far, W is left -/
def dg_I (A0 W : Nat → Nat → Int) (u w : Nat) : Prop := rk_M 2 W ∧ (∀ s, rk_R 0 W s → rk_R 0 A0 (u + w + s)) ∧ (∀ s, rk_R 2 W s → rk_R 2 A0 (u + s)) ∧ (0 < w → ∀ i j, W i j = 0)
theorem dg_0 {A0 : Nat → Nat → Int} (h : rk_M 2 A0) : dg_I A0 A0 0 0 :=
  ⟨h, fun s z => by rw [Nat.add_zero, Nat.zero_add]; exact z, fun s z => by rw [Nat.zero_add]; exact z, fun z => absurd z (by omega)⟩
theorem dg_re {A0 W V : Nat → Nat → Int} {u w : Nat} (σ τ : Nat → Nat) (hs : ∀ i, σ (σ i) = i) (ht : ∀ j, τ (τ j) = j) (h : ∀ i j, V i j = W (σ i) (τ j)) (I : dg_I A0 W u w) : dg_I A0 V u w :=
  ⟨wi_M_re σ τ h I.1, fun s z => I.2.1 s (wi_R_re σ τ hs ht h z), fun s z => I.2.2.1 s (wi_R_re σ τ hs ht h z), fun z i j => by rw [h]; exact I.2.2.2 z _ _⟩
theorem dg_unit {A0 W V : Nat → Nat → Int} {u w p c : Nat} (hu : W p c = 1 ∨ W p c = -1) (hV : ∀ i j, W p c * V i j = W p c * W i j - W i c * W p j) (I : dg_I A0 W u w) : dg_I A0 V (u + 1) w := by
  have hw : w = 0 := by
    apply Classical.byContradiction
    intro z
    have := I.2.2.2 (by omega) p c
    omega
  have n0 : ¬ (0 : Int) ∣ W p c := by rw [Int.zero_dvd]; omega
  have n2 : ¬ (2 : Int) ∣ W p c := by omega
  refine ⟨rk_M_unit hu hV I.1, fun s z => ?_, fun s z => ?_, fun z => absurd z (by omega)⟩
  · have := I.2.1 (s + 1) (rk_R_V li_p0 n0 n0 hV z)
    rw [show u + 1 + w + s = u + w + (s + 1) by omega]
    exact this
  · have := I.2.2.1 (s + 1) (rk_R_V li_p2 n2 n2 hV z)
    rw [show u + 1 + s = u + (s + 1) by omega]
    exact this
theorem dg_zero {A0 W : Nat → Nat → Int} {u w : Nat} (I : dg_I A0 W u w) (hz : ∀ i j, W i j = 0) : rk_R 0 A0 (u + w) ∧ rk_R 2 A0 u :=
  ⟨I.2.1 0 (rk_R_zero li_p0 (fun i j => by rw [hz]; exact Int.dvd_zero _)), I.2.2.1 0 (rk_R_zero li_p2 (fun i j => by rw [hz]; exact Int.dvd_zero _))⟩
theorem dg_two {A0 W V : Nat → Nat → Int} {u w p c : Nat} (he : ∀ i j, ¬ (W i j = 1 ∨ W i j = -1)) (hu : W p c = 2 ∨ W p c = -2) (hV : ∀ i j, W p c * V i j = W p c * W i j - W i c * W p j) (I : dg_I A0 W u w) : dg_I A0 V u (w + 1) ∧ ∀ i j, V i j = 0 := by
  have hw : w = 0 := by
    apply Classical.byContradiction
    intro z
    have := I.2.2.2 (by omega) p c
    omega
  have hev := li_even I.1 he
  have s0 : ∀ i j, V i j = 0 := by
    intro i j
    have b := I.1 2 (fun a => if a = 0 then p else i) (fun a => if a = 0 then c else j)
    rw [rk_2] at b
    have b' : -2 ≤ W p c * W i j - W i c * W p j ∧ W p c * W i j - W i c * W p j ≤ 2 := b
    have e := hV i j
    have h1 := hev i j
    have h2 := hev i c
    have h3 := hev p j
    rcases hu with u | u <;> rcases h1 with v | v | v <;> rcases h2 with w | w | w <;> rcases h3 with y | y | y <;> rw [u, v, w, y] at b' e <;> omega
  have n0 : ¬ (0 : Int) ∣ W p c := by rw [Int.zero_dvd]; omega
  refine ⟨⟨?_, fun s z => ?_, fun s z => ?_, fun _ => s0⟩, s0⟩
  · rw [show V = fun _ _ => 0 from funext fun i => funext fun j => s0 i j]
    exact ce_le (by decide) ce_nil
  · have := I.2.1 (s + 1) (rk_R_V li_p0 n0 n0 hV z)
    rw [show u + (w + 1) + s = u + w + (s + 1) by omega]
    exact this
  · have e := rk_uni z (rk_R_zero li_p2 (fun i j => by rw [s0]; exact Int.dvd_zero _))
    rw [e]
    exact I.2.2.1 0 (rk_R_zero li_p2 (fun i j => by rcases hev i j with u | u | u <;> rw [u] <;> decide))
/-- the least entry leads: it is 1 or 2 but for the sign, and divides all -/
theorem dg_lead {W : Nat → Nat → Int} {p c : Nat} (hM : rk_M 2 W) (h0 : W p c ≠ 0) (hl : ∀ i j, W i j ≠ 0 → (W p c).natAbs ≤ (W i j).natAbs) : (W p c = 1 ∨ W p c = -1) ∨ ((W p c = 2 ∨ W p c = -2) ∧ ∀ i j, ¬ (W i j = 1 ∨ W i j = -1)) := by
  have b := rk_M_e hM p c
  by_cases u : W p c = 1 ∨ W p c = -1
  · exact Or.inl u
  · refine Or.inr ⟨by omega, fun i j z => ?_⟩
    have := hl i j (by omega)
    omega
theorem dg_div {W : Nat → Nat → Int} {p c : Nat} (hM : rk_M 2 W) (h : (W p c = 1 ∨ W p c = -1) ∨ ((W p c = 2 ∨ W p c = -2) ∧ ∀ i j, ¬ (W i j = 1 ∨ W i j = -1))) (i j : Nat) : ∃ k : Int, W i j = W p c * k ∧ -2 ≤ k ∧ k ≤ 2 := by
  have b := rk_M_e hM i j
  rcases h with u | ⟨u, e⟩
  · rcases u with u | u
    · exact ⟨W i j, by rw [u]; omega, b.1, b.2⟩
    · exact ⟨- W i j, by rw [u]; omega, by omega, by omega⟩
  · rcases li_even hM e i j with v | v | v <;> rcases u with u | u
    · exact ⟨0, by rw [v, u]; omega, by omega, by omega⟩
    · exact ⟨0, by rw [v, u]; omega, by omega, by omega⟩
    · exact ⟨1, by rw [v, u]; omega, by omega, by omega⟩
    · exact ⟨-1, by rw [v, u]; omega, by omega, by omega⟩
    · exact ⟨-1, by rw [v, u]; omega, by omega, by omega⟩
    · exact ⟨1, by rw [v, u]; omega, by omega, by omega⟩
theorem dg_step {A0 W V : Nat → Nat → Int} {u w p c : Nat} (I : dg_I A0 W u w) (h : (W p c = 1 ∨ W p c = -1) ∨ ((W p c = 2 ∨ W p c = -2) ∧ ∀ i j, ¬ (W i j = 1 ∨ W i j = -1))) (hV : ∀ i j, W p c * V i j = W p c * W i j - W i c * W p j) : ((W p c = 1 ∨ W p c = -1) ∧ dg_I A0 V (u + 1) w) ∨ ((W p c = 2 ∨ W p c = -2) ∧ dg_I A0 V u (w + 1)) := by
  rcases h with a | ⟨a, e⟩
  · exact Or.inl ⟨a, dg_unit a hV I⟩
  · exact Or.inr ⟨a, (dg_two e a hV I).1⟩
/-! counting -/
def cn_c (f : Nat → Bool) : Nat → Nat
  | 0 => 0
  | n + 1 => cn_c f n + (if f n = true then 1 else 0)
theorem cn_s (f : Nat → Bool) (n : Nat) : cn_c f (n + 1) = cn_c f n + (if f n = true then 1 else 0) := rfl
theorem cn_congr {f g : Nat → Bool} : ∀ {n : Nat}, (∀ i, i < n → f i = g i) → cn_c f n = cn_c g n := by
  intro n
  induction n with
  | zero => intro _; rfl
  | succ n ih => intro h; rw [cn_s, cn_s, ih (fun i hi => h i (by omega)), h n (by omega)]
theorem cn_le (f : Nat → Bool) (n : Nat) : cn_c f n ≤ n := by
  induction n with
  | zero => exact Nat.le_refl 0
  | succ n ih => rw [cn_s]; split <;> omega
theorem cn_imp {f g : Nat → Bool} : ∀ {n : Nat}, (∀ i, i < n → f i = true → g i = true) → cn_c f n ≤ cn_c g n := by
  intro n
  induction n with
  | zero => intro _; exact Nat.le_refl 0
  | succ n ih =>
    intro h
    have := ih (fun i hi => h i (by omega))
    rw [cn_s, cn_s]
    by_cases e : f n = true
    · rw [if_pos e, if_pos (h n (by omega) e)]; omega
    · rw [if_neg e]; omega
theorem cn_mono (f : Nat → Bool) {a b : Nat} (h : a ≤ b) : cn_c f a ≤ cn_c f b := by
  induction b with
  | zero => have : a = 0 := by omega
            rw [this]; exact Nat.le_refl _
  | succ b ih =>
    by_cases e : a = b + 1
    · rw [e]; exact Nat.le_refl _
    · have := ih (by omega)
      rw [cn_s]; omega
theorem cn_lt {f : Nat → Bool} {s n : Nat} (h : s < n) (hs : f s = true) : cn_c f s < cn_c f n := by
  have := cn_mono f (show s + 1 ≤ n by omega)
  rw [cn_s, if_pos hs] at this
  omega
theorem cn_inj {f : Nat → Bool} {s t : Nat} (hs : f s = true) (ht : f t = true) (h : cn_c f s = cn_c f t) : s = t := by
  rcases Nat.lt_trichotomy s t with z | z | z
  · have := cn_lt z hs; omega
  · exact z
  · have := cn_lt z ht; omega
/-- the i-th number below n with f, or d -/
def cn_sel (f : Nat → Bool) (i d : Nat) : Nat → Nat
  | 0 => d
  | n + 1 => if f n = true ∧ cn_c f n = i then n else cn_sel f i d n
theorem cn_sel_at {f : Nat → Bool} {i d : Nat} : ∀ {n s : Nat}, s < n → f s = true → cn_c f s = i → cn_sel f i d n = s := by
  intro n
  induction n with
  | zero => intro s h; omega
  | succ n ih =>
    intro s h hs hi
    show (if f n = true ∧ cn_c f n = i then n else cn_sel f i d n) = s
    split
    · rename_i z
      exact cn_inj z.1 hs (z.2.trans hi.symm)
    · rename_i z
      by_cases e : s = n
      · exact absurd ⟨e ▸ hs, e ▸ hi⟩ z
      · exact ih (by omega) hs hi
theorem cn_sel_ok {f : Nat → Bool} {i d : Nat} : ∀ {n : Nat}, i < cn_c f n → f (cn_sel f i d n) = true ∧ cn_c f (cn_sel f i d n) = i ∧ cn_sel f i d n < n := by
  intro n
  induction n with
  | zero => intro h; exact absurd h (by simp [cn_c])
  | succ n ih =>
    intro h
    show f (if f n = true ∧ cn_c f n = i then n else cn_sel f i d n) = true ∧ cn_c f (if f n = true ∧ cn_c f n = i then n else cn_sel f i d n) = i ∧ (if f n = true ∧ cn_c f n = i then n else cn_sel f i d n) < n + 1
    split
    · rename_i z
      exact ⟨z.1, z.2, by omega⟩
    · rename_i z
      rw [cn_s] at h
      have h2 : i < cn_c f n := by
        by_cases e : f n = true
        · rw [if_pos e] at h
          have : cn_c f n ≠ i := fun y => z ⟨e, y⟩
          omega
        · rw [if_neg e] at h
          omega
      have := ih h2
      exact ⟨this.1, this.2.1, by omega⟩
theorem cn_sel_no {f : Nat → Bool} {i d : Nat} : ∀ {n : Nat}, cn_c f n ≤ i → cn_sel f i d n = d := by
  intro n
  induction n with
  | zero => intro _; rfl
  | succ n ih =>
    intro h
    show (if f n = true ∧ cn_c f n = i then n else cn_sel f i d n) = d
    rw [cn_s] at h
    split
    · rename_i z
      rw [if_pos z.1] at h
      omega
    · exact ih (by omega)
end
section
/-! rows with two entries: signs for the columns, and lifts -/
theorem sf_two {W : Nat → Nat → Int} {i a b : Nat} (hab : a < b) (hb : b < 64) (hz : ∀ j, j ≠ a → j ≠ b → W i j = 0) (x : Nat → Int) : li_dot W x i = W i a * x a + W i b * x b := by
  unfold li_dot
  rw [li_split (fun j => W i j * x j) (c := a) (by omega), li_split (fun j => if j = a then 0 else W i j * x j) (c := b) hb, if_neg (by omega), dt_sum_zero (fun j _ => ?_), Int.add_zero]
  show (if j = b then 0 else if j = a then 0 else W i j * x j) = 0
  by_cases h1 : j = b
  · rw [if_pos h1]
  · rw [if_neg h1]
    by_cases h2 : j = a
    · rw [if_pos h2]
    · rw [if_neg h2, hz j h2 h1, Int.zero_mul]
def sf_2 (W : Nat → Nat → Int) : Prop := ∀ i, (∀ j, W i j = 0) ∨ ∃ a b, a < b ∧ b < 64 ∧ (W i a = 1 ∨ W i a = -1) ∧ (W i b = 1 ∨ W i b = -1) ∧ ∀ j, j ≠ a → j ≠ b → W i j = 0
def sf_G (W : Nat → Nat → Int) (ε : Nat → Int) : Prop := (∀ t, ε t = 1 ∨ ε t = -1) ∧ ∀ i, li_dot W ε i = 0
theorem sf_z {W : Nat → Nat → Int} {i : Nat} (h : ∀ j, W i j = 0) (x : Nat → Int) : li_dot W x i = 0 := dt_sum_zero (fun j _ => by rw [h, Int.zero_mul])
theorem sf_KS {W : Nat → Nat → Int} (h2 : sf_2 W) : li_K W ↔ ∃ ε, sf_G W ε := by
  constructor
  · intro hK
    obtain ⟨y, hy1, hy2⟩ := hK (fun _ => 1) (fun i => by
      rcases h2 i with z | ⟨a, b, hab, hb, ha1, hb1, hz⟩
      · rw [sf_z z]; exact Int.dvd_zero _
      · rw [sf_two hab hb hz]
        rcases ha1 with u | u <;> rcases hb1 with v | v <;> rw [u, v] <;> decide)
    refine ⟨fun j => if 0 < y j then 1 else -1, fun t => ?_, fun i => ?_⟩
    · show (if 0 < y t then (1 : Int) else -1) = 1 ∨ (if 0 < y t then (1 : Int) else -1) = -1
      split
      · exact Or.inl rfl
      · exact Or.inr rfl
    · rcases h2 i with z | ⟨a, b, hab, hb, ha1, hb1, hz⟩
      · exact sf_z z _
      · rw [sf_two hab hb hz]
        have e := hy2 i
        rw [sf_two hab hb hz] at e
        have oa := hy1 a
        have ob := hy1 b
        show W i a * (if 0 < y a then (1 : Int) else -1) + W i b * (if 0 < y b then (1 : Int) else -1) = 0
        have pick : ∀ z : Int, ∃ s : Int, (if 0 < z then (1 : Int) else -1) = s ∧ (0 < z ∧ s = 1 ∨ ¬ 0 < z ∧ s = -1) := by
          intro z
          by_cases p : 0 < z
          · exact ⟨1, if_pos p, Or.inl ⟨p, rfl⟩⟩
          · exact ⟨-1, if_neg p, Or.inr ⟨p, rfl⟩⟩
        obtain ⟨s, hs, hs2⟩ := pick (y a)
        obtain ⟨t, ht, ht2⟩ := pick (y b)
        rw [hs, ht]
        rcases ha1 with u | u <;> rcases hb1 with v | v <;> rw [u, v] at e ⊢ <;> rcases hs2 with ⟨p, q⟩ | ⟨p, q⟩ <;> rcases ht2 with ⟨p', q'⟩ | ⟨p', q'⟩ <;> rw [q, q'] <;> omega
  · rintro ⟨ε, h1, h0⟩ x hx
    refine ⟨fun j => ε j * (x j % 2), fun j => ?_, fun i => ?_⟩
    · show (2 : Int) ∣ ε j * (x j % 2) - x j
      rcases h1 j with u | u <;> rw [u] <;> omega
    · rcases h2 i with z | ⟨a, b, hab, hb, ha1, hb1, hz⟩
      · exact sf_z z _
      · rw [sf_two hab hb hz]
        have e := h0 i
        rw [sf_two hab hb hz] at e
        have d := hx i
        rw [sf_two hab hb hz] at d
        have par : x a % 2 = x b % 2 := by rcases ha1 with u | u <;> rcases hb1 with v | v <;> rw [u, v] at d <;> omega
        show W i a * (ε a * (x a % 2)) + W i b * (ε b * (x b % 2)) = 0
        rw [par]
        generalize x b % 2 = r
        have : W i a * (ε a * r) + W i b * (ε b * r) = (W i a * ε a + W i b * ε b) * r := by grind
        rw [this, e, Int.zero_mul]
theorem sf_c2 {f : Nat → Bool} (h : cn_c f 64 = 2) : ∃ a b, a < b ∧ b < 64 ∧ f a = true ∧ f b = true ∧ ∀ j, j < 64 → f j = true → j = a ∨ j = b := by
  obtain ⟨a1, a2, a3⟩ := cn_sel_ok (f := f) (i := 0) (d := 0) (n := 64) (by omega)
  obtain ⟨b1, b2, b3⟩ := cn_sel_ok (f := f) (i := 1) (d := 0) (n := 64) (by omega)
  refine ⟨_, _, ?_, b3, a1, b1, fun j hj hf => ?_⟩
  · apply Classical.byContradiction
    intro z
    have := cn_mono f (show cn_sel f 1 0 64 ≤ cn_sel f 0 0 64 by omega)
    omega
  · have := cn_lt hj hf
    by_cases e : cn_c f j = 0
    · exact Or.inl (cn_inj hf a1 (by omega))
    · exact Or.inr (cn_inj hf b1 (by omega))
end
section
/-! masks of 64 bits -/
def mk_b (x : Int64) (i : Nat) : Bool := x.toBitVec.getLsbD i
theorem mk_ext {x y : Int64} (h : ∀ i, i < 64 → mk_b x i = mk_b y i) : x = y := Int64.toBitVec_inj.mp (BitVec.eq_of_getLsbD_eq (fun i hi => h i hi))
theorem mk_or (x y : Int64) (i : Nat) : mk_b (x ||| y) i = (mk_b x i || mk_b y i) := by unfold mk_b; rw [Int64.toBitVec_or, BitVec.getLsbD_or]
theorem mk_and (x y : Int64) (i : Nat) : mk_b (x &&& y) i = (mk_b x i && mk_b y i) := by unfold mk_b; rw [Int64.toBitVec_and, BitVec.getLsbD_and]
theorem mk_xor (x y : Int64) (i : Nat) : mk_b (x ^^^ y) i = (mk_b x i ^^ mk_b y i) := by unfold mk_b; rw [Int64.toBitVec_xor, BitVec.getLsbD_xor]
theorem mk_big {x : Int64} {i : Nat} (h : 64 ≤ i) : mk_b x i = false := BitVec.getLsbD_of_ge _ _ h
theorem mk_0 (i : Nat) : mk_b 0 i = false := BitVec.getLsbD_zero
theorem mk_m1 : ∀ i, i < 64 → mk_b (-1) i = true := by decide +kernel
theorem mk_not (x : Int64) {i : Nat} (h : i < 64) : mk_b (x ^^^ (-1)) i = !mk_b x i := by rw [mk_xor, mk_m1 i h]; cases mk_b x i <;> rfl
theorem mk_su : ∀ n, n < 64 → (((nI n).toInt64.toUInt64 &&& Int64.toUInt64 63).toBitVec % 64).toNat = n := by decide +kernel
theorem mk_ushr (n : Nat) (hn : n < 64) (x : Int64) (i : Nat) : mk_b ((x.toUInt64 >>> ((nI n).toInt64.toUInt64 &&& Int64.toUInt64 63)).toInt64) i = mk_b x (n + i) := by
  show (x.toUInt64 >>> ((nI n).toInt64.toUInt64 &&& Int64.toUInt64 63)).toBitVec.getLsbD i = x.toUInt64.toBitVec.getLsbD (n + i)
  rw [UInt64.toBitVec_shiftRight]
  show (x.toUInt64.toBitVec >>> (((nI n).toInt64.toUInt64 &&& Int64.toUInt64 63).toBitVec % 64).toNat).getLsbD i = _
  rw [mk_su n hn, BitVec.getLsbD_ushiftRight]
theorem mk_o1 : ∀ i, i < 64 → mk_b 1 i = decide (i = 0) := by decide +kernel
theorem mk_bit (x : Int64) {n : Nat} (hn : n < 64) : ((x.toUInt64 >>> ((nI n).toInt64.toUInt64 &&& Int64.toUInt64 63)).toInt64 &&& 1) = if mk_b x n = true then 1 else 0 := by
  apply mk_ext
  intro i hi
  rw [mk_and, mk_ushr n hn, mk_o1 i hi]
  by_cases h0 : i = 0
  · subst h0
    rw [Nat.add_zero]
    cases hb : mk_b x n
    · rw [if_neg (by decide), mk_0]; rfl
    · rw [if_pos rfl, mk_o1 0 (by omega)]; rfl
  · rw [decide_eq_false h0, Bool.and_false]
    split
    · rw [mk_o1 i hi, decide_eq_false h0]
    · rw [mk_0]
theorem mk_sh1 : ∀ k, k < 64 → ∀ i, i < 64 → mk_b ((1 : Int64) <<< ((nI k).toInt64 &&& 63)) i = decide (i = k) := by decide +kernel
theorem mk_lN : ∀ s, s < 64 → ∀ i, i < 64 → mk_b (nI s).toInt64 i = s.testBit i := by decide +kernel
/-! sets as small numbers -/
theorem st_and (a b : Nat) : nI a &&& nI b = nI (a &&& b) := by
  apply Int32.toBitVec_inj.1
  show BitVec.ofNat 32 a &&& BitVec.ofNat 32 b = BitVec.ofNat 32 (a &&& b)
  apply BitVec.eq_of_getLsbD_eq
  intro i hi
  simp [hi]
theorem st_or (a b : Nat) : nI a ||| nI b = nI (a ||| b) := by
  apply Int32.toBitVec_inj.1
  show BitVec.ofNat 32 a ||| BitVec.ofNat 32 b = BitVec.ofNat 32 (a ||| b)
  apply BitVec.eq_of_getLsbD_eq
  intro i hi
  simp [hi]
theorem st_xor (a b : Nat) : nI a ^^^ nI b = nI (a ^^^ b) := by
  apply Int32.toBitVec_inj.1
  show BitVec.ofNat 32 a ^^^ BitVec.ofNat 32 b = BitVec.ofNat 32 (a ^^^ b)
  apply BitVec.eq_of_getLsbD_eq
  intro i hi
  simp [hi]
theorem st_and_le (a b : Nat) : a &&& b ≤ a := Nat.and_le_left
theorem st_or_lt {a b : Nat} (ha : a < 64) (hb : b < 64) : a ||| b < 64 := Nat.or_lt_two_pow (n := 6) ha hb
theorem st_pc : ∀ s, s < 64 → cn_c (mk_b (nI s).toInt64) 64 = ed_pc s := by decide +kernel
/-- the place of a set among those of its degree -/
def st_pl (s : Nat) : Nat := cn_c (fun x => decide (1 ≤ x) && decide (ed_pc x = ed_pc s)) s
theorem st_pl_lt : ∀ s, s < 64 → st_pl s < 20 := by decide +kernel
/-- the set of k vertices at place i, or 64 -/
def st_us (k i : Nat) : Nat := cn_sel (fun x => decide (1 ≤ x) && decide (ed_pc x = k)) i 64 64
theorem st_us_pl {s : Nat} (h1 : 1 ≤ s) (h : s < 64) : st_us (ed_pc s) (st_pl s) = s :=
  cn_sel_at h (by simp [h1]) rfl
theorem st_us_ok {k i : Nat} (h : st_us k i < 64) : 1 ≤ st_us k i ∧ ed_pc (st_us k i) = k ∧ st_pl (st_us k i) = i := by
  by_cases hc : i < cn_c (fun x => decide (1 ≤ x) && decide (ed_pc x = k)) 64
  · have := cn_sel_ok (d := 64) hc
    have e : cn_sel (fun x => decide (1 ≤ x) && decide (ed_pc x = k)) i 64 64 = st_us k i := rfl
    rw [e] at this
    obtain ⟨a, b, _⟩ := this
    rw [Bool.and_eq_true, decide_eq_true_iff, decide_eq_true_iff] at a
    refine ⟨a.1, a.2, ?_⟩
    unfold st_pl
    rw [a.2]
    exact b
  · have : st_us k i = 64 := cn_sel_no (by omega)
    omega
end
section
/-! the tables of both sides against the edge matrix of a family S of sets -/
def tb_X (c : Nat → Int32) : Nat → Nat → Int := fun i j => if i < 20 ∧ j < 20 then (c (20 * i + j)).toInt else 0
def tb_Y (R C : Nat) (c : Nat → Int64) : Nat → Nat → Int := fun i j => if i < R ∧ j < C then (c (20 * i + j)).toInt else 0
theorem tb_en0 {s t : Nat} (h : ed_pc t ≠ ed_pc s + 1) : ed_en s t = 0 := by
  unfold ed_en
  rw [if_neg (fun z => h z.2)]
theorem tb_S0 {S : Nat → Bool} {k s t : Nat} (h : ed_pc s ≠ k ∨ ed_pc t ≠ k + 1 ∨ s = 0 ∨ t = 0 ∨ 64 ≤ s ∨ 64 ≤ t ∨ S s = false ∨ S t = false) : ed_S S k s t = 0 := by
  unfold ed_S
  by_cases hS : S s = true ∧ S t = true
  · rw [if_pos hS]
    unfold ed_D
    by_cases hc : s < 64 ∧ t < 64 ∧ 1 ≤ k ∧ ed_pc t = k + 1
    · rw [if_pos hc]
      refine tb_en0 (fun z => ?_)
      have p0 : ed_pc 0 = 0 := rfl
      rcases h with h | h | h | h | h | h | h | h
      · omega
      · omega
      · rw [h, p0] at z; omega
      · rw [h, p0] at z; omega
      · omega
      · omega
      · rw [hS.1] at h; exact absurd h (by decide)
      · rw [hS.2] at h; exact absurd h (by decide)
    · rw [if_neg hc]
  · rw [if_neg hS]
/-- X's table: rows and columns at the places of all sets -/
def tb_hX (S : Nat → Bool) (k : Nat) (c : Nat → Int32) : Prop := ∀ i j, i < 20 → j < 20 → (c (20 * i + j)).toInt = ed_S S k (st_us k i) (st_us (k + 1) j)
theorem tb_us_lt {k i : Nat} : st_us k i ≤ 64 := by
  by_cases hc : i < cn_c (fun x => decide (1 ≤ x) && decide (ed_pc x = k)) 64
  · have := (cn_sel_ok (d := 64) hc).2.2
    exact Nat.le_of_lt this
  · have : st_us k i = 64 := cn_sel_no (by omega)
    omega
theorem tb_X1 {S : Nat → Bool} {k : Nat} {c : Nat → Int32} (h : tb_hX S k c) (i j : Nat) : tb_X c i j = ed_S S k (if i < 20 then st_us k i else 64) (if j < 20 then st_us (k + 1) j else 64) := by
  unfold tb_X
  by_cases hi : i < 20
  · by_cases hj : j < 20
    · rw [if_pos ⟨hi, hj⟩, if_pos hi, if_pos hj]; exact h i j hi hj
    · rw [if_neg (fun z => hj z.2), if_neg hj, ed_S_out (Or.inr (Nat.le_refl 64))]
  · rw [if_neg (fun z => hi z.1), if_neg hi, ed_S_out (Or.inl (Nat.le_refl 64))]
theorem tb_X2 {S : Nat → Bool} {k : Nat} {c : Nat → Int32} (h : tb_hX S k c) (s t : Nat) : ed_S S k s t = tb_X c (if 1 ≤ s ∧ s < 64 ∧ ed_pc s = k then st_pl s else 20) (if 1 ≤ t ∧ t < 64 ∧ ed_pc t = k + 1 then st_pl t else 20) := by
  by_cases hs : 1 ≤ s ∧ s < 64 ∧ ed_pc s = k
  · by_cases ht : 1 ≤ t ∧ t < 64 ∧ ed_pc t = k + 1
    · rw [if_pos hs, if_pos ht]
      have e1 := st_us_pl hs.1 hs.2.1
      have e2 := st_us_pl ht.1 ht.2.1
      rw [hs.2.2] at e1
      rw [ht.2.2] at e2
      rw [tb_X1 h, if_pos (st_pl_lt s hs.2.1), if_pos (st_pl_lt t ht.2.1), e1, e2]
    · rw [if_neg ht, tb_S0 (by omega)]
      unfold tb_X
      rw [if_neg (by omega)]
  · rw [if_neg hs, tb_S0 (by omega)]
    unfold tb_X
    rw [if_neg (by omega)]
theorem tb_X_R {q : Int} {S : Nat → Bool} {k r : Nat} {c : Nat → Int32} (h : tb_hX S k c) (hr : rk_R q (tb_X c) r) : rk_R q (ed_S S k) r :=
  rk_R_re (fun i => if i < 20 then st_us k i else 64) (fun j => if j < 20 then st_us (k + 1) j else 64) (fun s => if 1 ≤ s ∧ s < 64 ∧ ed_pc s = k then st_pl s else 20) (fun t => if 1 ≤ t ∧ t < 64 ∧ ed_pc t = k + 1 then st_pl t else 20) (tb_X1 h) (tb_X2 h) hr
theorem tb_X_M {S : Nat → Bool} {k : Nat} {c : Nat → Int32} (h : tb_hX S k c) : rk_M 2 (tb_X c) := wi_M_re _ _ (tb_X1 h) (ed_SM S k)
/-- Y's table: rows and columns of the sets in S alone -/
def tb_r (S : Nat → Bool) (k s : Nat) : Bool := decide (1 ≤ s) && (S s && decide (ed_pc s = k))
def tb_hY (S : Nat → Bool) (k R C : Nat) (c : Nat → Int64) : Prop := R = cn_c (tb_r S k) 64 ∧ C = cn_c (tb_r S (k + 1)) 64 ∧ ∀ i j, i < R → j < C → (c (20 * i + j)).toInt = ed_S S k (cn_sel (tb_r S k) i 64 64) (cn_sel (tb_r S (k + 1)) j 64 64)
theorem tb_Y1 {S : Nat → Bool} {k R C : Nat} {c : Nat → Int64} (h : tb_hY S k R C c) (i j : Nat) : tb_Y R C c i j = ed_S S k (cn_sel (tb_r S k) i 64 64) (cn_sel (tb_r S (k + 1)) j 64 64) := by
  unfold tb_Y
  by_cases hi : i < R
  · by_cases hj : j < C
    · rw [if_pos ⟨hi, hj⟩]; exact h.2.2 i j hi hj
    · rw [if_neg (fun z => hj z.2), cn_sel_no (f := tb_r S (k + 1)) (i := j) (by have := h.2.1; omega), ed_S_out (Or.inr (Nat.le_refl 64))]
  · rw [if_neg (fun z => hi z.1), cn_sel_no (f := tb_r S k) (i := i) (by have := h.1; omega), ed_S_out (Or.inl (Nat.le_refl 64))]
theorem tb_r_ok {S : Nat → Bool} {k s : Nat} : tb_r S k s = true ↔ 1 ≤ s ∧ S s = true ∧ ed_pc s = k := by
  unfold tb_r
  rw [Bool.and_eq_true, Bool.and_eq_true, decide_eq_true_iff, decide_eq_true_iff]
theorem tb_Y2 {S : Nat → Bool} {k R C : Nat} {c : Nat → Int64} (h : tb_hY S k R C c) (s t : Nat) : ed_S S k s t = tb_Y R C c (if s < 64 ∧ tb_r S k s = true then cn_c (tb_r S k) s else R) (if t < 64 ∧ tb_r S (k + 1) t = true then cn_c (tb_r S (k + 1)) t else C) := by
  have no : ∀ {k s : Nat}, s < 64 → ¬ (s < 64 ∧ tb_r S k s = true) → ed_pc s ≠ k ∨ s = 0 ∨ S s = false := by
    intro k s hs z
    by_cases h1 : ed_pc s = k
    · by_cases h2 : s = 0
      · exact Or.inr (Or.inl h2)
      · right; right
        cases hS : S s
        · rfl
        · exact absurd ⟨hs, tb_r_ok.mpr ⟨by omega, hS, h1⟩⟩ z
    · exact Or.inl h1
  by_cases hs : s < 64 ∧ tb_r S k s = true
  · by_cases ht : t < 64 ∧ tb_r S (k + 1) t = true
    · rw [if_pos hs, if_pos ht, tb_Y1 h, cn_sel_at hs.1 hs.2 rfl, cn_sel_at ht.1 ht.2 rfl]
    · rw [if_neg ht]
      unfold tb_Y
      rw [if_neg (by omega)]
      by_cases t64 : t < 64
      · rcases no t64 ht with z | z | z
        · exact tb_S0 (Or.inr (Or.inl z))
        · exact tb_S0 (Or.inr (Or.inr (Or.inr (Or.inl z))))
        · exact tb_S0 (Or.inr (Or.inr (Or.inr (Or.inr (Or.inr (Or.inr (Or.inr z)))))))
      · exact ed_S_out (Or.inr (by omega))
  · rw [if_neg hs]
    unfold tb_Y
    rw [if_neg (by omega)]
    by_cases s64 : s < 64
    · rcases no s64 hs with z | z | z
      · exact tb_S0 (Or.inl z)
      · exact tb_S0 (Or.inr (Or.inr (Or.inl z)))
      · exact tb_S0 (Or.inr (Or.inr (Or.inr (Or.inr (Or.inr (Or.inr (Or.inl z)))))))
    · exact ed_S_out (Or.inl (by omega))
theorem tb_Y_R {q : Int} {S : Nat → Bool} {k R C r : Nat} {c : Nat → Int64} (h : tb_hY S k R C c) (hr : rk_R q (tb_Y R C c) r) : rk_R q (ed_S S k) r :=
  rk_R_re (fun i => cn_sel (tb_r S k) i 64 64) (fun j => cn_sel (tb_r S (k + 1)) j 64 64) (fun s => if s < 64 ∧ tb_r S k s = true then cn_c (tb_r S k) s else R) (fun t => if t < 64 ∧ tb_r S (k + 1) t = true then cn_c (tb_r S (k + 1)) t else C) (tb_Y1 h) (tb_Y2 h) hr
theorem tb_Y_M {S : Nat → Bool} {k R C : Nat} {c : Nat → Int64} (h : tb_hY S k R C c) : rk_M 2 (tb_Y R C c) := wi_M_re _ _ (tb_Y1 h) (ed_SM S k)
theorem tb_20 : ∀ k, k < 7 → cn_c (fun s => decide (ed_pc s = k)) 64 ≤ 20 := by decide +kernel
theorem tb_R20 (S : Nat → Bool) (k : Nat) : cn_c (tb_r S k) 64 ≤ 20 := by
  by_cases h : k < 7
  · refine Nat.le_trans (cn_imp (fun i _ z => ?_)) (tb_20 k h)
    rw [decide_eq_true_iff]
    exact (tb_r_ok.mp z).2.2
  · have : cn_c (tb_r S k) 64 ≤ cn_c (fun _ => false) 64 := cn_imp (fun i _ z => by
      have h1 := (tb_r_ok.mp z).2.2
      have h2 := ed_pc_le i
      omega)
    have e : cn_c (fun _ => false) 64 = 0 := by decide
    omega
end
section
/-! small things of both sides -/
theorem nb_0 : narrow .boolean (.int 0) = .int 0 := lw_bz_n 0
theorem nb_1 : narrow .boolean (.int 1) = .int 1 := lw_bz_n 1
theorem nb_v0 : vp_nar .boolean 0 = 0 := by unfold vp_nar; rw [nb_0]
theorem nb_v1 : vp_nar .boolean 1 = 1 := by unfold vp_nar; rw [nb_1]
theorem nb_add0 (x : Int32) : x + 0 = x := by
  apply Int32.toBitVec_inj.1
  rw [Int32.toBitVec_add]
  exact BitVec.add_zero _
theorem rg_cases (p : Int32) : (p < 0 ∨ 4 ≤ p) ∨ ∃ j, j < 4 ∧ p = nI j := by
  by_cases h0 : p < 0
  · exact Or.inl (Or.inl h0)
  · obtain ⟨j, hj, rfl⟩ := nI_of h0
    by_cases h4 : j < 4
    · exact Or.inr ⟨j, h4, rfl⟩
    · exact Or.inl (Or.inr (nI_le (a := 4) (by omega) hj))
theorem rg_set (p : Int32) : (p < 1 ∨ 63 < p) ∨ ∃ j, 1 ≤ j ∧ j < 64 ∧ p = nI j := by
  by_cases h0 : p < 1
  · exact Or.inl (Or.inl h0)
  · have h : ¬ p < 0 := by
      intro z
      apply h0
      rw [Int32.lt_iff_toInt_lt] at z ⊢
      have e0 : (0 : Int32).toInt = 0 := by decide
      have e1 : (1 : Int32).toInt = 1 := by decide
      omega
    obtain ⟨j, hj, rfl⟩ := nI_of h
    by_cases h4 : j < 64
    · refine Or.inr ⟨j, ?_, h4, rfl⟩
      apply Classical.byContradiction
      intro z
      exact h0 (nI_lt (b := 1) (by omega) (by decide))
    · exact Or.inl (Or.inr (nI_lt (a := 63) (by omega) hj))
theorem rg_deg (p : Int32) : (p < 0 ∨ 5 < p) ∨ ∃ j, j < 6 ∧ p = nI j := by
  by_cases h0 : p < 0
  · exact Or.inl (Or.inl h0)
  · obtain ⟨j, hj, rfl⟩ := nI_of h0
    by_cases h4 : j < 6
    · exact Or.inr ⟨j, h4, rfl⟩
    · exact Or.inl (Or.inr (nI_lt (a := 5) (by omega) hj))
theorem xs_reg_bad {post : Int32 → Prop} {p : Int32} (h : p < 0 ∨ 4 ≤ p) (hp : post 0) : wpX_isRegister post p := by
  by_cases h0 : p < 0
  · exact br_t h0 hp
  · exact br_f h0 (br_t (h.resolve_left h0) hp)
theorem xs_reg {post : Int32 → Prop} {j : Nat} (h : j < 4) (hp : post 1) : wpX_isRegister post (nI j) := br_f (nI_pos (by omega)) (br_f (nI_ge (b := 4) h (by decide)) hp)
theorem xs_gt {i : Nat} (h : i < 64) : ¬ (63 : Int32) < nI i := fun z => absurd ((nI_ltI (a := 63) (by decide) (by omega)).mp z) (by omega)
theorem xs_gt64 : (63 : Int32) < nI 64 := nI_lt (a := 63) (b := 64) (by omega) (by decide)
theorem xs_set_bad {post : Int32 → Prop} {p : Int32} (h : p < 1 ∨ 63 < p) (hp : post 0) : wpX_isSet post p := by
  by_cases h0 : p < 1
  · exact br_t h0 hp
  · exact br_f h0 (br_t (h.resolve_left h0) hp)
theorem xs_set {post : Int32 → Prop} {j : Nat} (h1 : 1 ≤ j) (h : j < 64) (hp : post 1) : wpX_isSet post (nI j) := br_f (nI_nlt (b := 1) h1 (by omega)) (br_f (xs_gt h) hp)
theorem xs_deg_bad {post : Int32 → Prop} {p : Int32} (h : p < 0 ∨ 5 < p) (hp : post 0) : wpX_isDegree post p := by
  by_cases h0 : p < 0
  · exact br_t h0 hp
  · exact br_f h0 (br_t (h.resolve_left h0) hp)
theorem xs_deg {post : Int32 → Prop} {j : Nat} (h : j < 6) (hp : post 1) : wpX_isDegree post (nI j) := br_f (nI_pos (by omega)) (br_f (fun z => absurd ((nI_ltI (a := 5) (by decide) (by omega)).mp z) (by omega)) hp)
/-! size, isIn, isPart -/
theorem xs_bi (c : Bool) : (if c = true then (1 : Int64) else 0).toInt32 = nI (if c = true then 1 else 0) := by cases c <;> rfl
theorem xs_size_l {post : Int32 → Prop} {b : Int64} (hp : post (nI (cn_c (mk_b b) 64))) : ∀ d i, i + d = 64 → wX_size_4 post b (d + 1) (nI (cn_c (mk_b b) i)) (nI i) := by
  intro d
  induction d with
  | zero =>
    intro i hi
    have e : i = 64 := by omega
    subst e
    exact br_t (nI_le (a := 64) (b := 64) (by omega) (by decide)) hp
  | succ d ih =>
    intro i hi
    refine br_f (nI_ge (b := 64) (by omega) (by decide)) (fun x2 e2 x3 e3 => ?_)
    rw [e2, e3, mk_bit b (by omega), xs_bi, nI_add, nI_1]
    exact ih (i + 1) (by omega)
theorem xs_size {post : Int32 → Prop} {b : Int64} (hp : post (nI (cn_c (mk_b b) 64))) : wpX_size post b := ⟨65, xs_size_l hp 64 0 rfl⟩
theorem xs_pc {post : Int32 → Prop} {s : Nat} (hs : s < 64) (hp : post (nI (ed_pc s))) : wpX_size post (nI s).toInt64 := xs_size (by rw [st_pc s hs]; exact hp)
theorem xs_isIn {post : Int32 → Prop} {x : Int64} {s : Nat} (hs : s < 64) (ht : mk_b x s = true → post 1) (hf : mk_b x s = false → post 0) : wpX_isIn post x (nI s) := by
  unfold wpX_isIn
  rw [mk_bit x hs]
  cases hb : mk_b x s
  · exact br_f (by decide) (hf hb)
  · exact br_t rfl (ht hb)
theorem xs_isPart {post : Int32 → Prop} {a b : Nat} (ha : a < 64) (ht : a &&& b = a → post 1) (hf : ¬ a &&& b = a → post 0) : wpX_isPart post (nI a) (nI b) := by
  unfold wpX_isPart
  rw [st_and]
  have hl := st_and_le a b
  by_cases h : a &&& b = a
  · exact br_t (by rw [h]) (ht h)
  · exact br_f (fun z => h ((nI_eq (by omega) (by omega)).mp z)) (hf h)
/-! masks built bit by bit -/
def mb_I (f : Nat → Bool) (acc : Int64) (s : Nat) : Prop := ∀ t, t < 64 → mk_b acc t = (decide (t < s) && f t)
theorem mb_add {f : Nat → Bool} {acc : Int64} {s : Nat} (hs : s < 64) (h : mb_I f acc s) (hf : f s = true) : mb_I f (acc ||| ((1 : Int64) <<< ((nI s).toInt64 &&& 63))) (s + 1) := by
  intro t ht
  rw [mk_or, mk_sh1 s hs t ht, h t ht]
  by_cases e : t = s
  · subst e
    rw [hf, decide_eq_true (show t < t + 1 by omega), decide_eq_true (show t = t from rfl), Bool.or_true]; rfl
  · rw [decide_eq_false e, Bool.or_false]
    by_cases e2 : t < s
    · rw [decide_eq_true e2, decide_eq_true (show t < s + 1 by omega)]
    · rw [decide_eq_false e2, decide_eq_false (show ¬ t < s + 1 by omega)]
theorem mb_skip {f : Nat → Bool} {acc : Int64} {s : Nat} (h : mb_I f acc s) (hf : f s = false) : mb_I f acc (s + 1) := by
  intro t ht
  rw [h t ht]
  by_cases e : t = s
  · subst e
    rw [hf, Bool.and_false, Bool.and_false]
  · by_cases e2 : t < s
    · rw [decide_eq_true e2, decide_eq_true (show t < s + 1 by omega)]
    · rw [decide_eq_false e2, decide_eq_false (show ¬ t < s + 1 by omega)]
theorem mb_0 {f : Nat → Bool} (h : f 0 = false) : mb_I f 0 1 := by
  intro t _
  rw [mk_0]
  by_cases e : t = 0
  · subst e; rw [h, Bool.and_false]
  · rw [decide_eq_false (show ¬ t < 1 by omega)]; rfl
theorem mb_end {f : Nat → Bool} {acc : Int64} (h : mb_I f acc 64) : ∀ t, t < 64 → mk_b acc t = f t := by
  intro t ht
  rw [h t ht, decide_eq_true ht]; rfl
/-! ofDegree -/
def xs_dg (x : Int64) (n t : Nat) : Bool := decide (1 ≤ t) && (mk_b x t && decide (ed_pc t = n))
theorem xs_ofDegree {post : Int64 → Prop} {x : Int64} {k : Nat} (hk : k < 64) (hp : ∀ r, (∀ t, t < 64 → mk_b r t = xs_dg x (k + 1) t) → post r) : wpX_ofDegree post x (nI k) := by
  have l : ∀ d s acc, s + d = 64 → 1 ≤ s → mb_I (xs_dg x (k + 1)) acc s → wX_ofDegree_5 post x (nI k) (d + 1) acc (nI s) := by
    intro d
    induction d with
    | zero =>
      intro s acc hs _ h
      have e : s = 64 := by omega
      subst e
      exact br_t xs_gt64 (hp acc (mb_end h))
    | succ d ih =>
      intro s acc hs h1 h
      have hs64 : s < 64 := by omega
      refine br_f (xs_gt hs64) (xs_isIn hs64 (fun hb => ?_) (fun hb => ?_))
      · refine br_f (by decide) (xs_pc hs64 ?_)
        have hpc := ed_pc_le s
        rw [nI_1]
        by_cases e : ed_pc s = k + 1
        · refine br_t (by rw [e]) (fun y ey z ez => ?_)
          rw [ey, ez, nI_1]
          exact ih (s + 1) _ (by omega) (by omega) (mb_add hs64 h (by unfold xs_dg; rw [hb, e]; simp [h1]))
        · refine br_f (fun z => e ((nI_eq (by omega) (by omega)).mp z)) (fun y ey => ?_)
          rw [ey, nI_1]
          exact ih (s + 1) _ (by omega) (by omega) (mb_skip h (by unfold xs_dg; simp [e]))
      · refine br_t rfl (fun y ey => ?_)
        rw [ey, nI_1]
        exact ih (s + 1) _ (by omega) (by omega) (mb_skip h (by unfold xs_dg; simp [hb]))
  exact ⟨64, l 63 1 0 rfl (by omega) (mb_0 (by unfold xs_dg; simp))⟩
end
section
/-! the other masks of X -/
def xs_du (x : Int64) (t : Nat) : Bool := decide (1 ≤ t) && (decide (t < 63) && !mk_b x (63 ^^^ t))
theorem xs_63 : ∀ t, t < 64 → 63 ^^^ t < 64 := by decide
theorem xs_dualOf {post : Int64 → Prop} {x : Int64} (hp : ∀ r, (∀ t, t < 64 → mk_b r t = xs_du x t) → post r) : wpX_dualOf post x := by
  have l : ∀ d s acc, s + d = 63 → 1 ≤ s → mb_I (xs_du x) acc s → wX_dualOf_5 post x (d + 1) acc (nI s) := by
    intro d
    induction d with
    | zero =>
      intro s acc hs _ h
      have e : s = 63 := by omega
      subst e
      exact br_t (nI_le (a := 63) (b := 63) (by omega) (by decide)) (hp acc (mb_end (mb_skip h (by unfold xs_du; simp))))
    | succ d ih =>
      intro s acc hs h1 h
      have hs64 : s < 64 := by omega
      refine br_f (nI_ge (b := 63) (by omega) (by decide)) ?_
      rw [show (63 : Int32) ^^^ nI s = nI (63 ^^^ s) from st_xor 63 s]
      refine xs_isIn (xs_63 s hs64) (fun hb => ?_) (fun hb => ?_)
      · refine br_f (by decide) (fun y ey => ?_)
        rw [ey, nI_1]
        exact ih (s + 1) _ (by omega) (by omega) (mb_skip h (by unfold xs_du; simp [hb]))
      · refine br_t rfl (fun y ey z ez => ?_)
        rw [ey, ez, nI_1]
        exact ih (s + 1) _ (by omega) (by omega) (mb_add hs64 h (by unfold xs_du; simp [hb, h1]; omega))
  exact ⟨63, l 62 1 0 rfl (by omega) (mb_0 (by unfold xs_du; simp))⟩
def xs_li (x : Int64) (s t : Nat) : Bool := decide (1 ≤ t) && (decide (t &&& s = 0) && mk_b x (t ||| s))
theorem xs_linkOf {post : Int64 → Prop} {x : Int64} {w : Nat} (hw : w < 64) (hp : ∀ r, (∀ t, t < 64 → mk_b r t = xs_li x w t) → post r) : wpX_linkOf post x (nI w) := by
  have l : ∀ d s acc, s + d = 64 → 1 ≤ s → mb_I (xs_li x w) acc s → wX_linkOf_5 post x (nI w) (d + 1) acc (nI s) := by
    intro d
    induction d with
    | zero =>
      intro s acc hs _ h
      have e : s = 64 := by omega
      subst e
      exact br_t xs_gt64 (hp acc (mb_end h))
    | succ d ih =>
      intro s acc hs h1 h
      have hs64 : s < 64 := by omega
      refine br_f (xs_gt hs64) ?_
      rw [st_and, st_or]
      have hl := st_and_le s w
      by_cases e : s &&& w = 0
      · refine br_t (by rw [e]; rfl) (xs_isIn (st_or_lt hs64 hw) (fun hb => ?_) (fun hb => ?_))
        · refine br_f (by decide) (fun y ey z ez => ?_)
          rw [ey, ez, nI_1]
          exact ih (s + 1) _ (by omega) (by omega) (mb_add hs64 h (by unfold xs_li; simp [hb, h1, e]))
        · refine br_t rfl (fun y ey => ?_)
          rw [ey, nI_1]
          exact ih (s + 1) _ (by omega) (by omega) (mb_skip h (by unfold xs_li; simp [hb]))
      · refine br_f (fun z => e ((nI_eq (b := 0) (by omega) (by decide)).mp z)) (fun y ey => ?_)
        rw [ey, nI_1]
        exact ih (s + 1) _ (by omega) (by omega) (mb_skip h (by unfold xs_li; simp [e]))
  exact ⟨64, l 63 1 0 rfl (by omega) (mb_0 (by unfold xs_li; simp))⟩
/-- the sets of x that have p as a part -/
def xs_wh (x : Int64) (p t : Nat) : Bool := mk_b x t && decide (p &&& t = p)
theorem xs_le : ∀ p, p < 64 → ∀ t, t < 64 → p &&& t = p → p ≤ t := by decide +kernel
theorem xs_wholes {post : Int32 → Prop} {x : Int64} {p : Nat} (hw : p < 64) (hp : post (nI (cn_c (xs_wh x p) 64))) : wpX_wholes post x (nI p) := by
  have l : ∀ d s, s + d = 64 → p ≤ s → wX_wholes_5 post x (nI p) (d + 1) (nI (cn_c (xs_wh x p) s)) (nI s) := by
    intro d
    induction d with
    | zero =>
      intro s hs _
      have e : s = 64 := by omega
      subst e
      exact br_t xs_gt64 hp
    | succ d ih =>
      intro s hs h1
      have hs64 : s < 64 := by omega
      have no : xs_wh x p s = false → wX_wholes_5 post x (nI p) (d + 1) (nI (cn_c (xs_wh x p) s)) (nI s + 1) := by
        intro hf
        have := ih (s + 1) (by omega) (by omega)
        rw [cn_s, hf] at this
        rw [nI_1]
        exact this
      refine br_f (xs_gt hs64) (xs_isIn hs64 (fun hb => ?_) (fun hb => ?_))
      · refine br_f (by decide) (xs_isPart hw (fun hq => ?_) (fun hq => ?_))
        · refine br_f (by decide) (fun y ey z ez => ?_)
          have := ih (s + 1) (by omega) (by omega)
          rw [cn_s, show xs_wh x p s = true by unfold xs_wh; simp [hb, hq]] at this
          rw [ey, ez, nI_1, nI_1]
          exact this
        · refine br_t rfl (fun y ey => ?_)
          rw [ey]
          exact no (by unfold xs_wh; simp [hq])
      · refine br_t rfl (fun y ey => ?_)
        rw [ey]
        exact no (by unfold xs_wh; simp [hb])
  have z : cn_c (xs_wh x p) p = 0 := by
    have : cn_c (xs_wh x p) p ≤ cn_c (fun _ => false) p := cn_imp (fun i hi h => by
      unfold xs_wh at h
      rw [Bool.and_eq_true, decide_eq_true_iff] at h
      have := xs_le p hw i (by omega) h.2
      omega)
    have e : ∀ n, cn_c (fun _ => false) n = 0 := by
      intro n
      induction n with
      | zero => rfl
      | succ n ih => rw [cn_s, ih]; rfl
    rw [e] at this
    omega
  have := l (64 - p) p (by omega) (Nat.le_refl p)
  rw [z] at this
  exact ⟨64 - p + 1, this⟩
def xs_fa (x : Int64) (t : Nat) : Bool := decide (1 ≤ t) && (mk_b x t && decide (cn_c (xs_wh x t) 64 = 1))
theorem xs_facetsOf {post : Int64 → Prop} {x : Int64} (hp : ∀ r, (∀ t, t < 64 → mk_b r t = xs_fa x t) → post r) : wpX_facetsOf post x := by
  have l : ∀ d s acc, s + d = 64 → 1 ≤ s → mb_I (xs_fa x) acc s → wX_facetsOf_5 post x (d + 1) acc (nI s) := by
    intro d
    induction d with
    | zero =>
      intro s acc hs _ h
      have e : s = 64 := by omega
      subst e
      exact br_t xs_gt64 (hp acc (mb_end h))
    | succ d ih =>
      intro s acc hs h1 h
      have hs64 : s < 64 := by omega
      refine br_f (xs_gt hs64) (xs_isIn hs64 (fun hb => ?_) (fun hb => ?_))
      · refine br_f (by decide) (xs_wholes hs64 ?_)
        have hc := cn_le (xs_wh x s) 64
        by_cases e : cn_c (xs_wh x s) 64 = 1
        · refine br_t (by rw [e]; rfl) (fun y ey z ez => ?_)
          rw [ey, ez, nI_1]
          exact ih (s + 1) _ (by omega) (by omega) (mb_add hs64 h (by unfold xs_fa; rw [hb, e]; simp [h1]))
        · refine br_f (fun z => e ((nI_eq (b := 1) (by omega) (by decide)).mp z)) (fun y ey => ?_)
          rw [ey, nI_1]
          exact ih (s + 1) _ (by omega) (by omega) (mb_skip h (by unfold xs_fa; simp [e]))
      · refine br_t rfl (fun y ey => ?_)
        rw [ey, nI_1]
        exact ih (s + 1) _ (by omega) (by omega) (mb_skip h (by unfold xs_fa; simp [hb]))
  exact ⟨64, l 63 1 0 rfl (by omega) (mb_0 (by unfold xs_fa; simp))⟩
/-! registers -/
theorem xs_uLs {f : Nat → Int64} {k : Nat} {x : Int64} : vp_updL f k x k = x := by unfold vp_updL; rw [if_pos rfl]
theorem xs_uLn {f : Nat → Int64} {k j : Nat} {x : Int64} (h : j ≠ k) : vp_updL f k x j = f j := by unfold vp_updL; rw [if_neg h]
theorem xs_us {f : Nat → Int32} {k : Nat} {x : Int32} : upd f k x k = x := by unfold upd; rw [if_pos rfl]
theorem xs_un {f : Nat → Int32} {k j : Nat} {x : Int32} (h : j ≠ k) : upd f k x j = f j := by unfold upd; rw [if_neg h]
theorem xs_cl {j : Nat} (h : j < 1000) : (nI j).toNatClampNeg = j := nI_clamp (by omega)
/-- the parts of s -/
def xs_ap (s t : Nat) : Bool := decide (1 ≤ t) && decide (t &&& s = t)
theorem xs_add {post : Int32 → SX → Prop} {lev : Int32} {held : Nat → Int64} {place cells : Nat → Int32} {r w : Nat} (hr : r < 4) (hw : w < 64) (hp : ∀ held', (∀ q, q ≠ r → held' q = held q) → (∀ t, t < 64 → mk_b (held' r) t = (mk_b (held r) t || xs_ap w t)) → post (nI (cn_c (mk_b (held' r)) 64)) (lev, held', place, cells)) : ∃ n, wX_add_18 post (nI r) (nI w) lev n 1 held place cells := by
  have hin : vp_in (nI r) 4 := vp_in_nI hr (by omega)
  have l : ∀ d s held', s + d = w + 1 → 1 ≤ s → (∀ q, q ≠ r → held' q = held q) → (∀ t, t < 64 → mk_b (held' r) t = (mk_b (held r) t || (decide (t < s) && xs_ap w t))) → wX_add_18 post (nI r) (nI w) lev (d + 1) (nI s) held' place cells := by
    intro d
    induction d with
    | zero =>
      intro s held' hs _ h1 h2
      have e : s = w + 1 := by omega
      subst e
      refine br_t (nI_lt (by omega) (by omega)) ⟨hin, ?_⟩
      rw [xs_cl (by omega)]
      refine xs_size (hp held' h1 (fun t ht => ?_))
      rw [h2 t ht]
      by_cases e2 : t < w + 1
      · rw [decide_eq_true e2]; rfl
      · have : xs_ap w t = false := by
          unfold xs_ap
          have : ¬ t &&& w = t := fun z => by
            have := xs_le t ht w hw z
            omega
          simp [this]
        rw [this, Bool.and_false]
    | succ d ih =>
      intro s held' hs h0 h1 h2
      refine br_f (nI_nlt (by omega) (by omega)) (xs_isPart (by omega) (fun hq => ?_) (fun hq => ?_))
      · refine br_f (by decide) ⟨hin, hin, fun y ey z ez => ?_⟩
        rw [ey, ez, nI_1, xs_cl (by omega)]
        refine ih (s + 1) _ (by omega) (by omega) (fun q hq => by rw [xs_uLn hq, h1 q hq]) (fun t ht => ?_)
        rw [xs_uLs, mk_or, mk_sh1 s (by omega) t ht, h2 t ht]
        by_cases e : t = s
        · subst e
          rw [decide_eq_true (show t = t from rfl), decide_eq_true (show t < t + 1 by omega), show xs_ap w t = true by unfold xs_ap; simp [h0, hq], Bool.or_true]; simp
        · rw [decide_eq_false e, Bool.or_false]
          by_cases e2 : t < s
          · rw [decide_eq_true e2, decide_eq_true (show t < s + 1 by omega)]
          · rw [decide_eq_false e2, decide_eq_false (show ¬ t < s + 1 by omega)]
      · refine br_t rfl (fun y ey => ?_)
        rw [ey, nI_1]
        refine ih (s + 1) _ (by omega) (by omega) h1 (fun t ht => ?_)
        rw [h2 t ht]
        by_cases e : t = s
        · subst e
          rw [show xs_ap w t = false by unfold xs_ap; simp [hq], Bool.and_false, Bool.and_false]
        · by_cases e2 : t < s
          · rw [decide_eq_true e2, decide_eq_true (show t < s + 1 by omega)]
          · rw [decide_eq_false e2, decide_eq_false (show ¬ t < s + 1 by omega)]
  exact ⟨w + 1, l w 1 held (by omega) (by omega) (fun _ _ => rfl) (fun t _ => by
    by_cases e : t = 0
    · subst e
      rw [show xs_ap w 0 = false by unfold xs_ap; simp, Bool.and_false, Bool.or_false]
    · rw [decide_eq_false (show ¬ t < 1 by omega), Bool.false_and, Bool.or_false])⟩
theorem xs_take {post : Int32 → SX → Prop} {lev : Int32} {held : Nat → Int64} {place cells : Nat → Int32} {r w : Nat} (hr : r < 4) (hw : w < 64) (hp : ∀ held', (∀ q, q ≠ r → held' q = held q) → (∀ t, t < 64 → mk_b (held' r) t = (mk_b (held r) t && !decide (w &&& t = w))) → post (nI (cn_c (mk_b (held' r)) 64)) (lev, held', place, cells)) : ∃ n, wX_take_18 post (nI r) (nI w) lev n (nI w) held place cells := by
  have hin : vp_in (nI r) 4 := vp_in_nI hr (by omega)
  have l : ∀ d s held', s + d = 64 → w ≤ s → (∀ q, q ≠ r → held' q = held q) → (∀ t, t < 64 → mk_b (held' r) t = (mk_b (held r) t && !(decide (t < s) && decide (w &&& t = w)))) → wX_take_18 post (nI r) (nI w) lev (d + 1) (nI s) held' place cells := by
    intro d
    induction d with
    | zero =>
      intro s held' hs _ h1 h2
      have e : s = 64 := by omega
      subst e
      refine br_t xs_gt64 ⟨hin, ?_⟩
      rw [xs_cl (by omega)]
      refine xs_size (hp held' h1 (fun t ht => ?_))
      rw [h2 t ht, decide_eq_true ht, Bool.true_and]
    | succ d ih =>
      intro s held' hs h0 h1 h2
      refine br_f (xs_gt (by omega)) (xs_isPart hw (fun hq => ?_) (fun hq => ?_))
      · refine br_f (by decide) ⟨hin, hin, fun y ey z ez => ?_⟩
        rw [ey, ez, nI_1, xs_cl (by omega)]
        refine ih (s + 1) _ (by omega) (by omega) (fun q hq => by rw [xs_uLn hq, h1 q hq]) (fun t ht => ?_)
        rw [xs_uLs, mk_and, mk_not _ ht, mk_sh1 s (by omega) t ht, h2 t ht]
        by_cases e : t = s
        · subst e
          rw [decide_eq_true (show t = t from rfl), decide_eq_true (show t < t + 1 by omega), decide_eq_true hq]; simp
        · rw [decide_eq_false e]
          by_cases e2 : t < s
          · rw [decide_eq_true e2, decide_eq_true (show t < s + 1 by omega)]; simp
          · rw [decide_eq_false e2, decide_eq_false (show ¬ t < s + 1 by omega)]; simp
      · refine br_t rfl (fun y ey => ?_)
        rw [ey, nI_1]
        refine ih (s + 1) _ (by omega) (by omega) h1 (fun t ht => ?_)
        rw [h2 t ht]
        by_cases e : t = s
        · subst e
          rw [decide_eq_false hq, Bool.and_false, Bool.and_false]
        · by_cases e2 : t < s
          · rw [decide_eq_true e2, decide_eq_true (show t < s + 1 by omega)]
          · rw [decide_eq_false e2, decide_eq_false (show ¬ t < s + 1 by omega)]
  exact ⟨64 - w + 1, l (64 - w) w held (by omega) (by omega) (fun _ _ => rfl) (fun t ht => by
    by_cases e : w &&& t = w
    · have := xs_le w hw t ht e
      rw [decide_eq_false (show ¬ t < w by omega), Bool.false_and]; simp
    · rw [decide_eq_false e, Bool.and_false]; simp)⟩
end
section
/-! the reference: ranges, degree, size -/
theorem ys_3 {p : Int32} (h0 : ¬ p < 0) (h : 4 ≤ p) : (3 : Int32) < p := by
  obtain ⟨j, hj, rfl⟩ := nI_of h0
  exact nI_lt (a := 3) (by
    have := (nI_leI (a := 4) (by decide) hj).mp h
    omega) hj
theorem ys_reg_bad {post : Int32 → Prop} {v : SY} {p : Int32} (h : p < 0 ∨ 4 ≤ p) (hp : post 0) : wpY_isRegister post v p := by
  obtain ⟨rw, cl, has, now, pl, ta, si⟩ := v
  by_cases h0 : p < 0
  · exact br_t h0 ⟨nb_0, hp⟩
  · exact br_f h0 (br_t (ys_3 h0 (h.resolve_left h0)) ⟨nb_0, hp⟩)
theorem ys_reg {post : Int32 → Prop} {v : SY} {j : Nat} (h : j < 4) (hp : post 1) : wpY_isRegister post v (nI j) := by
  obtain ⟨rw, cl, has, now, pl, ta, si⟩ := v
  exact br_f (nI_pos (by omega)) (br_f (fun z => absurd ((nI_ltI (a := 3) (by decide) (by omega)).mp z) (by omega)) ⟨nb_1, hp⟩)
theorem ys_in_bad {post : Int32 → Prop} {v : SY} {p lo hi : Int32} (h : p < lo ∨ hi < p) (hp : post 0) : wpY_in post v p lo hi := by
  obtain ⟨rw, cl, has, now, pl, ta, si⟩ := v
  by_cases h0 : p < lo
  · exact br_t h0 hp
  · exact br_f h0 (br_t (h.resolve_left h0) hp)
theorem ys_in {post : Int32 → Prop} {v : SY} {p lo hi : Int32} (h1 : ¬ p < lo) (h2 : ¬ hi < p) (hp : post 1) : wpY_in post v p lo hi := by
  obtain ⟨rw, cl, has, now, pl, ta, si⟩ := v
  exact br_f h1 (br_f h2 hp)
theorem ys_set {post : Int32 → Prop} {v : SY} {j : Nat} (h1 : 1 ≤ j) (h : j < 64) (hp : post 1) : wpY_in post v (nI j) 1 63 := ys_in (nI_nlt (b := 1) h1 (by omega)) (xs_gt h) hp
theorem ys_dg {post : Int32 → Prop} {v : SY} {j : Nat} (h : j < 6) (hp : post 1) : wpY_in post v (nI j) 0 5 := ys_in (nI_pos (by omega)) (fun z => absurd ((nI_ltI (a := 5) (by decide) (by omega)).mp z) (by omega)) hp
theorem ys_bit : ∀ s, s < 64 → ∀ v, v < 6 → (nI (ed_pc (s % 2 ^ v)) - 1) + ((nI s >>> (nI v &&& 31)) &&& 1) = nI (ed_pc (s % 2 ^ (v + 1))) - 1 := by decide +kernel
theorem ys_lt6 {i : Nat} (h : i < 6) : ¬ (6 : Int32) ≤ nI i := nI_ge (b := 6) h (by decide)
theorem ys_ge6 : (6 : Int32) ≤ nI 6 := nI_le (a := 6) (b := 6) (by omega) (by decide)
theorem ys_lt64 {i : Nat} (h : i < 64) : ¬ (64 : Int32) ≤ nI i := nI_ge (b := 64) h (by decide)
theorem ys_ge64 : (64 : Int32) ≤ nI 64 := nI_le (a := 64) (b := 64) (by omega) (by decide)
theorem ys_degree {post : Int32 → Prop} {v : SY} {s : Nat} (hs : s < 64) (hp : post (nI (ed_pc s) - 1)) : wpY_degree post v (nI s) := by
  obtain ⟨rw, cl, has, now, pl, ta, si⟩ := v
  have l : ∀ d i, i + d = 6 → wY_degree_4 post (nI s) rw cl has now pl ta si (d + 1) (nI (ed_pc (s % 2 ^ i)) - 1) (nI i) := by
    intro d
    induction d with
    | zero =>
      intro i hi
      have e : i = 6 := by omega
      subst e
      refine br_t ys_ge6 ?_
      rw [show s % 2 ^ 6 = s from Nat.mod_eq_of_lt hs]
      exact hp
    | succ d ih =>
      intro i hi
      refine br_f (ys_lt6 (by omega)) (fun y ey z ez => ?_)
      rw [ey, ez, ys_bit s hs i (by omega), nI_1]
      exact ih (i + 1) (by omega)
  have := l 6 0 rfl
  rw [show s % 2 ^ 0 = 0 from Nat.mod_one s] at this
  exact ⟨7, this⟩
theorem ys_dk : ∀ a, a < 7 → ∀ k, k < 8 → (nI a - 1 = nI k ↔ a = k + 1) := by decide +kernel
theorem ys_dk1 : ∀ a, a < 7 → ∀ k, k < 8 → (nI a - 1 = nI k - 1 ↔ a = k) := by decide +kernel
theorem ys_ix (r s : Nat) : (64 : Int32) * nI r + nI s = nI (64 * r + s) := by
  show nI 64 * nI r + nI s = _
  rw [show nI 64 * nI r = nI (64 * r) from (Int32.ofNat_mul 64 r).symm, nI_add]
theorem ys_vi {r s : Nat} (hr : r < 4) (hs : s < 64) : vp_in (nI (64 * r + s)) 256 := vp_in_nI (by omega) (by decide)
theorem ys_cl {r s : Nat} (hr : r < 4) (hs : s < 64) : (nI (64 * r + s)).toNatClampNeg = 64 * r + s := nI_clamp (by omega)
/-- has holds the family b in register r -/
def ys_H (has : Nat → Int32) (r : Nat) (b : Nat → Bool) : Prop := ∀ s, 1 ≤ s → s < 64 → has (64 * r + s) = if b s = true then 1 else 0
theorem ys_H0 {has : Nat → Int32} {r s : Nat} {b : Nat → Bool} (h : ys_H has r b) (h1 : 1 ≤ s) (hs : s < 64) : has (64 * r + s) = 0 ↔ b s = false := by
  rw [h s h1 hs]
  cases b s
  · exact ⟨fun _ => rfl, fun _ => rfl⟩
  · exact ⟨fun z => absurd z (by decide), fun z => absurd z (by decide)⟩
/-- a question to has -/
theorem ys_ask {has : Nat → Int32} {r s : Nat} {b : Nat → Bool} {A B : Prop} (hr : r < 4) (h1 : 1 ≤ s) (hs : s < 64) (h : ys_H has r b) (hf : b s = false → A) (ht : b s = true → B) : vp_in ((64 : Int32) * nI r + nI s) 256 ∧ ((has ((64 : Int32) * nI r + nI s).toNatClampNeg = 0 → A) ∧ (¬ has ((64 : Int32) * nI r + nI s).toNatClampNeg = 0 → B)) := by
  rw [ys_ix, ys_cl hr hs]
  refine ⟨ys_vi hr hs, ?_⟩
  cases hb : b s
  · exact br_t ((ys_H0 h h1 hs).mpr hb) (hf hb)
  · exact br_f (fun z => by rw [(ys_H0 h h1 hs).mp z] at hb; exact absurd hb (by decide)) (ht hb)
theorem ys_size {post : Int32 → Prop} {rw cl : Int32} {has now pl si : Nat → Int32} {ta : Nat → Int64} {r : Nat} {b : Nat → Bool} (hr : r < 4) (h : ys_H has r b) (b0 : b 0 = false) (hp : post (nI (cn_c b 64))) : wpY_size post (rw, cl, has, now, pl, ta, si) (nI r) := by
  have l : ∀ d s, s + d = 64 → 1 ≤ s → wY_size_4 post (nI r) rw cl has now pl ta si (d + 1) (nI (cn_c b s)) (nI s) := by
    intro d
    induction d with
    | zero =>
      intro s hs _
      have e : s = 64 := by omega
      subst e
      exact br_t ys_ge64 hp
    | succ d ih =>
      intro s hs h1
      have hn := ih (s + 1) (by omega) (by omega)
      rw [cn_s] at hn
      refine br_f (ys_lt64 (by omega)) (ys_ask hr h1 (by omega) h (fun hb => ?_) (fun hb => ?_))
      · intro y ey
        rw [hb] at hn
        rw [ey, nI_1]
        exact hn
      · intro y ey z ez
        rw [hb] at hn
        rw [ey, ez, nI_1, nI_1]
        exact hn
  have := l 63 1 rfl (by omega)
  rw [cn_s, b0] at this
  exact ⟨64, this⟩
/-! (s & ~set) == 0 -/
theorem ys_sub : ∀ a, a < 64 → ∀ b, b < 64 → ((nI a &&& (nI b ^^^ (-1))) = 0 ↔ a &&& b = a) := by decide +kernel
theorem ys_add {post : Int32 → SY → Prop} {rw cl : Int32} {has now pl si : Nat → Int32} {ta : Nat → Int64} {r w : Nat} (hr : r < 4) (hw : w < 64) (hp : ∀ has', (∀ i, (∀ s, s < 64 → i ≠ 64 * r + s) → has' i = has i) → (∀ s, 1 ≤ s → s < 64 → has' (64 * r + s) = if xs_ap w s = true then 1 else has (64 * r + s)) → wpY_size (fun c => post c (rw, cl, has', now, pl, ta, si)) (rw, cl, has', now, pl, ta, si) (nI r)) : ∃ n, wY_add_23 post (nI r) (nI w) rw cl n 1 has now pl ta si := by
  have l : ∀ d s has', s + d = 64 → 1 ≤ s → (∀ i, (∀ s, s < 64 → i ≠ 64 * r + s) → has' i = has i) → (∀ t, 1 ≤ t → t < 64 → has' (64 * r + t) = if t < s ∧ xs_ap w t = true then 1 else has (64 * r + t)) → wY_add_23 post (nI r) (nI w) rw cl (d + 1) (nI s) has' now pl ta si := by
    intro d
    induction d with
    | zero =>
      intro s has' hs _ h1 h2
      have e : s = 64 := by omega
      subst e
      refine br_t ys_ge64 (hp has' h1 (fun t t1 t2 => ?_))
      rw [h2 t t1 t2]
      by_cases e : xs_ap w t = true
      · rw [if_pos ⟨t2, e⟩, if_pos e]
      · rw [if_neg (fun z => e z.2), if_neg e]
    | succ d ih =>
      intro s has' hs h0 h1 h2
      refine br_f (ys_lt64 (by omega)) ?_
      by_cases e : s &&& w = s
      · have ha : xs_ap w s = true := by unfold xs_ap; simp [h0, e]
        refine br_t ((ys_sub s (by omega) w hw).mpr e) ?_
        rw [ys_ix, ys_cl hr (by omega), nb_v1]
        refine ⟨ys_vi hr (by omega), fun y ey z ez => ?_⟩
        rw [ey, ez, nI_1]
        refine ih (s + 1) _ (by omega) (by omega) (fun i hi => by rw [xs_un (hi s (by omega)), h1 i hi]) (fun t t1 t2 => ?_)
        by_cases ets : t = s
        · subst ets
          rw [xs_us, if_pos ⟨by omega, ha⟩]
        · rw [xs_un (by omega), h2 t t1 t2]
          by_cases q : t < s ∧ xs_ap w t = true
          · rw [if_pos q, if_pos ⟨by omega, q.2⟩]
          · rw [if_neg q, if_neg (fun z => q ⟨by omega, z.2⟩)]
      · have ha : ¬ xs_ap w s = true := by unfold xs_ap; simp [e]
        refine br_f (fun z => e ((ys_sub s (by omega) w hw).mp z)) (fun y ey => ?_)
        rw [ey, nI_1]
        refine ih (s + 1) _ (by omega) (by omega) h1 (fun t t1 t2 => ?_)
        rw [h2 t t1 t2]
        by_cases ets : t = s
        · subst ets
          rw [if_neg (fun z => ha z.2), if_neg (fun z => ha z.2)]
        · by_cases q : t < s ∧ xs_ap w t = true
          · rw [if_pos q, if_pos ⟨by omega, q.2⟩]
          · rw [if_neg q, if_neg (fun z => q ⟨by omega, z.2⟩)]
  exact ⟨64, l 63 1 has rfl (by omega) (fun _ _ => rfl) (fun t t1 _ => by rw [if_neg (by omega)])⟩
theorem ys_take {post : Int32 → SY → Prop} {rw cl : Int32} {has now pl si : Nat → Int32} {ta : Nat → Int64} {r w : Nat} (hr : r < 4) (hw : w < 64) (hp : ∀ has', (∀ i, (∀ s, s < 64 → i ≠ 64 * r + s) → has' i = has i) → (∀ s, 1 ≤ s → s < 64 → has' (64 * r + s) = if w &&& s = w then 0 else has (64 * r + s)) → wpY_size (fun c => post c (rw, cl, has', now, pl, ta, si)) (rw, cl, has', now, pl, ta, si) (nI r)) : ∃ n, wY_take_23 post (nI r) (nI w) rw cl n 1 has now pl ta si := by
  have l : ∀ d s has', s + d = 64 → 1 ≤ s → (∀ i, (∀ s, s < 64 → i ≠ 64 * r + s) → has' i = has i) → (∀ t, 1 ≤ t → t < 64 → has' (64 * r + t) = if t < s ∧ w &&& t = w then 0 else has (64 * r + t)) → wY_take_23 post (nI r) (nI w) rw cl (d + 1) (nI s) has' now pl ta si := by
    intro d
    induction d with
    | zero =>
      intro s has' hs _ h1 h2
      have e : s = 64 := by omega
      subst e
      refine br_t ys_ge64 (hp has' h1 (fun t t1 t2 => ?_))
      rw [h2 t t1 t2]
      by_cases e : w &&& t = w
      · rw [if_pos ⟨t2, e⟩, if_pos e]
      · rw [if_neg (fun z => e z.2), if_neg e]
    | succ d ih =>
      intro s has' hs h0 h1 h2
      refine br_f (ys_lt64 (by omega)) ?_
      by_cases e : w &&& s = w
      · refine br_t ((ys_sub w hw s (by omega)).mpr e) ?_
        rw [ys_ix, ys_cl hr (by omega), nb_v0]
        refine ⟨ys_vi hr (by omega), fun y ey z ez => ?_⟩
        rw [ey, ez, nI_1]
        refine ih (s + 1) _ (by omega) (by omega) (fun i hi => by rw [xs_un (hi s (by omega)), h1 i hi]) (fun t t1 t2 => ?_)
        by_cases ets : t = s
        · subst ets
          rw [xs_us, if_pos ⟨by omega, e⟩]
        · rw [xs_un (by omega), h2 t t1 t2]
          by_cases q : t < s ∧ w &&& t = w
          · rw [if_pos q, if_pos ⟨by omega, q.2⟩]
          · rw [if_neg q, if_neg (fun z => q ⟨by omega, z.2⟩)]
      · refine br_f (fun z => e ((ys_sub w hw s (by omega)).mp z)) (fun y ey => ?_)
        rw [ey, nI_1]
        refine ih (s + 1) _ (by omega) (by omega) h1 (fun t t1 t2 => ?_)
        rw [h2 t t1 t2]
        by_cases ets : t = s
        · subst ets
          rw [if_neg (fun z => e z.2), if_neg (fun z => e z.2)]
        · by_cases q : t < s ∧ w &&& t = w
          · rw [if_pos q, if_pos ⟨by omega, q.2⟩]
          · rw [if_neg q, if_neg (fun z => q ⟨by omega, z.2⟩)]
  exact ⟨64, l 63 1 has rfl (by omega) (fun _ _ => rfl) (fun t t1 _ => by rw [if_neg (by omega)])⟩
/-! keep -/
theorem ys_keep {post : SY → Prop} {rw cl : Int32} {has now pl si : Nat → Int32} {ta : Nat → Int64} {r : Nat} {b : Nat → Bool} (hr : r < 4) (hn : ∀ s, 1 ≤ s → s < 64 → now s = if b s = true then 1 else 0) (hp : ∀ has', (∀ i, (∀ s, s < 64 → i ≠ 64 * r + s) → has' i = has i) → ys_H has' r b → post (rw, cl, has', now, pl, ta, si)) : wpY_keep post (rw, cl, has, now, pl, ta, si) (nI r) := by
  have l : ∀ d s has', s + d = 64 → 1 ≤ s → (∀ i, (∀ s, s < 64 → i ≠ 64 * r + s) → has' i = has i) → (∀ t, 1 ≤ t → t < s → has' (64 * r + t) = if b t = true then 1 else 0) → wY_keep_2 post (nI r) rw cl (d + 1) (nI s) has' now pl ta si := by
    intro d
    induction d with
    | zero =>
      intro s has' hs _ h1 h2
      have e : s = 64 := by omega
      subst e
      exact br_t ys_ge64 (hp has' h1 h2)
    | succ d ih =>
      intro s has' hs h0 h1 h2
      refine br_f (ys_lt64 (by omega)) ⟨vp_in_nI (by omega) (by decide), ?_⟩
      rw [ys_ix, ys_cl hr (by omega), xs_cl (by omega)]
      refine ⟨ys_vi hr (by omega), fun y ey z ez => ?_⟩
      rw [ey, ez, nI_1]
      refine ih (s + 1) _ (by omega) (by omega) (fun i hi => by rw [xs_un (hi s (by omega)), h1 i hi]) (fun t t1 t2 => ?_)
      by_cases ets : t = s
      · subst ets
        rw [xs_us, hn t t1 (by omega)]
        cases b t
        · exact nb_v0
        · exact nb_v1
      · rw [xs_un (by omega)]
        exact h2 t t1 (by omega)
  exact ⟨64, l 63 1 has rfl (by omega) (fun _ _ => rfl) (fun t t1 t2 => by omega)⟩
end
section
/-! the relation -/
def re_C (h : Int64) : Prop := mk_b h 0 = false ∧ ∀ s t, 1 ≤ s → t < 64 → s &&& t = s → mk_b h t = true → mk_b h s = true
def re_R (lev : Int32) (held : Nat → Int64) (place has : Nat → Int32) : Prop := (lev = 0 ∨ lev = 1) ∧ (∀ s, 1 ≤ s → s < 64 → place s = nI (st_pl s)) ∧ ∀ r, r < 4 → re_C (held r) ∧ ys_H has r (mk_b (held r))
def i_Rel (_ : Nat) (u : SX) (v : SY) : Prop := re_R u.1 u.2.1 u.2.2.1 v.2.2.1
theorem i_up {k : Nat} {u : SX} {v : SY} (h : i_Rel k u v) : i_Rel (k + 5) u v := h
theorem re_lt {s t : Nat} (ht : t < 64) (h : s &&& t = s) : s < 64 := by
  have := @Nat.and_le_right s t
  omega
theorem re_Cof {h : Int64} (b : Nat → Bool) (hb : ∀ t, t < 64 → mk_b h t = b t) (b0 : b 0 = false) (hc : ∀ s t, 1 ≤ s → s < 64 → t < 64 → s &&& t = s → b t = true → b s = true) : re_C h := by
  refine ⟨by rw [hb 0 (by omega)]; exact b0, fun s t h1 ht hst hm => ?_⟩
  have hs := re_lt ht hst
  rw [hb s hs]
  rw [hb t ht] at hm
  exact hc s t h1 hs ht hst hm
theorem re_upd {lev : Int32} {held held' : Nat → Int64} {place has has' : Nat → Int32} {r : Nat} (I : re_R lev held place has) (e1 : ∀ q, q ≠ r → held' q = held q) (f1 : ∀ i, (∀ s, s < 64 → i ≠ 64 * r + s) → has' i = has i) (hc : re_C (held' r)) (hh : ys_H has' r (mk_b (held' r))) : re_R lev held' place has' := by
  refine ⟨I.1, I.2.1, fun q hq => ?_⟩
  by_cases e : q = r
  · subst e; exact ⟨hc, hh⟩
  · rw [e1 q e]
    refine ⟨(I.2.2 q hq).1, fun s s1 s2 => ?_⟩
    rw [f1 (64 * q + s) (fun t ht => by omega)]
    exact (I.2.2 q hq).2 s s1 s2
theorem re_tr {s t w : Nat} (h1 : s &&& t = s) (h2 : t &&& w = t) : s &&& w = s := by
  rw [← h1, Nat.and_assoc, h2]
/-! the constructors -/
theorem xs_place {post : Int32 → Prop} {s : Nat} (hs : s < 64) (hs1 : 1 ≤ s) (hp : post (nI (st_pl s))) : wpX_placeInDegree post (nI s) := by
  unfold wpX_placeInDegree
  refine xs_pc hs ?_
  have l : ∀ d i, i + d = s → 1 ≤ i → wX_placeInDegree_10 post (nI s) (nI (ed_pc s)) (d + 1) (nI (cn_c (fun x => decide (1 ≤ x) && decide (ed_pc x = ed_pc s)) i)) (nI i) := by
    intro d
    induction d with
    | zero =>
      intro i hi _
      have e : i = s := by omega
      subst e
      exact br_t (nI_le (Nat.le_refl i) (by omega)) hp
    | succ d ih =>
      intro i hi h1
      have hn := ih (i + 1) (by omega) (by omega)
      rw [cn_s] at hn
      have p1 := ed_pc_le i
      have p2 := ed_pc_le s
      refine br_f (nI_ge (by omega) (by omega)) (xs_pc (by omega) ?_)
      by_cases e : ed_pc i = ed_pc s
      · refine br_t (by rw [e]) (fun y ey z ez => ?_)
        rw [show (decide (1 ≤ i) && decide (ed_pc i = ed_pc s)) = true by simp [h1, e]] at hn
        rw [ey, ez, nI_1, nI_1]
        exact hn
      · refine br_f (fun z => e ((nI_eq (by omega) (by omega)).mp z)) (fun y ey => ?_)
        rw [show (decide (1 ≤ i) && decide (ed_pc i = ed_pc s)) = false by simp [e]] at hn
        rw [ey, nI_1]
        exact hn
  exact ⟨s - 1 + 1, l (s - 1) 1 (by omega) (by omega)⟩
theorem i_vc0 : wpX_init (fun u => wpY_init (fun v => i_Rel 0 u v)) := by
  have l : ∀ d s place, s + d = 64 → 1 ≤ s → (∀ t, 1 ≤ t → t < s → place t = nI (st_pl t)) → wX_init_35 (fun u => wpY_init (fun v => i_Rel 0 u v)) 1 (d + 1) (nI s) (fun _ => 0) place (fun _ => 0) := by
    intro d
    induction d with
    | zero =>
      intro s place hs _ h
      have e : s = 64 := by omega
      subst e
      refine br_t xs_gt64 ?_
      show re_R 1 (fun _ => 0) place (fun _ => 0)
      refine ⟨Or.inr rfl, h, fun r _ => ⟨⟨mk_0 0, fun s t _ _ _ z => ?_⟩, fun s _ _ => ?_⟩⟩
      · exact absurd (show mk_b 0 t = true from z) (by rw [mk_0]; decide)
      · show (0 : Int32) = if mk_b 0 s = true then 1 else 0
        rw [mk_0]; rfl
    | succ d ih =>
      intro s place hs h1 h
      refine br_f (xs_gt (by omega)) (xs_place (by omega) h1 ⟨vp_in_nI (by omega) (by decide), fun y ey z ez => ?_⟩)
      rw [ey, ez, nI_1, xs_cl (by omega)]
      refine ih (s + 1) _ (by omega) (by omega) (fun t t1 t2 => ?_)
      by_cases e : t = s
      · subst e; rw [xs_us]
      · rw [xs_un e]; exact h t t1 (by omega)
  exact ⟨64, l 63 1 _ rfl (by omega) (fun t t1 t2 => by omega)⟩
/-! add, take, has, count, level -/
theorem i_vc_add {k : Nat} {u : SX} {v : SY} (I : i_Rel k u v) (hk : k + 5 ≤ 2560) (v1 : Int32) (v2 : Int32) : wpX_add (fun r u' => wpY_add (fun r' v' => r' = r ∧ i_Rel (k + 5) u' v') v v1 v2) u v1 v2 := by
  obtain ⟨lev, held, place, cells⟩ := u
  obtain ⟨rw, cl, has, now, pl, ta, si⟩ := v
  have I : re_R lev held place has := I
  unfold wpX_add wpY_add
  dsimp only
  rcases rg_cases v1 with hb | ⟨r, hr, rfl⟩
  · exact xs_reg_bad hb (br_t rfl (ys_reg_bad hb (br_t rfl ⟨rfl, I⟩)))
  refine xs_reg hr (br_f (by decide) ?_)
  rcases rg_set v2 with hb | ⟨w, h1, hw, rfl⟩
  · exact xs_set_bad hb (br_t rfl (ys_reg hr (br_f (by decide) (ys_in_bad hb (br_t rfl ⟨rfl, I⟩)))))
  refine xs_set h1 hw (br_f (by decide) (xs_add hr hw (fun held' e1 e2 => ?_)))
  refine ys_reg hr (br_f (by decide) (ys_set h1 hw (br_f (by decide) (ys_add hr hw (fun has' f1 f2 => ?_)))))
  have J := I.2.2 r hr
  have hc : re_C (held' r) := re_Cof _ e2 (by rw [J.1.1]; unfold xs_ap; simp) (fun s t h1 hs ht hst z => by
    rw [Bool.or_eq_true] at z ⊢
    rcases z with z | z
    · exact Or.inl (J.1.2 s t h1 ht hst z)
    · right
      unfold xs_ap at z ⊢
      rw [Bool.and_eq_true, decide_eq_true_iff, decide_eq_true_iff] at z ⊢
      exact ⟨h1, re_tr hst z.2⟩)
  have hH : ys_H has' r (mk_b (held' r)) := by
    intro s s1 s2
    rw [f2 s s1 s2, e2 s s2]
    cases hx : xs_ap w s
    · rw [if_neg (by decide), Bool.or_false]; exact J.2 s s1 s2
    · rw [if_pos rfl, Bool.or_true, if_pos rfl]
  exact ys_size hr hH hc.1 ⟨rfl, re_upd I e1 f1 hc hH⟩
theorem i_vc_take {k : Nat} {u : SX} {v : SY} (I : i_Rel k u v) (hk : k + 5 ≤ 2560) (v1 : Int32) (v2 : Int32) : wpX_take (fun r u' => wpY_take (fun r' v' => r' = r ∧ i_Rel (k + 5) u' v') v v1 v2) u v1 v2 := by
  obtain ⟨lev, held, place, cells⟩ := u
  obtain ⟨rw, cl, has, now, pl, ta, si⟩ := v
  have I : re_R lev held place has := I
  unfold wpX_take wpY_take
  dsimp only
  rcases rg_cases v1 with hb | ⟨r, hr, rfl⟩
  · exact xs_reg_bad hb (br_t rfl (ys_reg_bad hb (br_t rfl ⟨rfl, I⟩)))
  refine xs_reg hr (br_f (by decide) ?_)
  rcases rg_set v2 with hb | ⟨w, h1, hw, rfl⟩
  · exact xs_set_bad hb (br_t rfl (ys_reg hr (br_f (by decide) (ys_in_bad hb (br_t rfl ⟨rfl, I⟩)))))
  refine xs_set h1 hw (br_f (by decide) (xs_take hr hw (fun held' e1 e2 => ?_)))
  refine ys_reg hr (br_f (by decide) (ys_set h1 hw (br_f (by decide) (ys_take hr hw (fun has' f1 f2 => ?_)))))
  have J := I.2.2 r hr
  have hc : re_C (held' r) := re_Cof _ e2 (by rw [J.1.1]; rfl) (fun s t h1 hs ht hst z => by
    rw [Bool.and_eq_true, Bool.not_eq_true', decide_eq_false_iff_not] at z ⊢
    exact ⟨J.1.2 s t h1 ht hst z.1, fun y => z.2 (re_tr y hst)⟩)
  have hH : ys_H has' r (mk_b (held' r)) := by
    intro s s1 s2
    rw [f2 s s1 s2, e2 s s2]
    by_cases hx : w &&& s = w
    · rw [if_pos hx, decide_eq_true hx]; simp
    · rw [if_neg hx, decide_eq_false hx]; simp only [Bool.not_false, Bool.and_true]; exact J.2 s s1 s2
  exact ys_size hr hH hc.1 ⟨rfl, re_upd I e1 f1 hc hH⟩
theorem i_vc_has {k : Nat} {u : SX} {v : SY} (I : i_Rel k u v) (hk : k + 5 ≤ 2560) (v1 : Int32) (v2 : Int32) : wpX_has (fun r => wpY_has (fun r' => r' = r ∧ i_Rel (k + 5) u v) v v1 v2) u v1 v2 := by
  obtain ⟨lev, held, place, cells⟩ := u
  obtain ⟨rw, cl, has, now, pl, ta, si⟩ := v
  have I : re_R lev held place has := I
  unfold wpX_has wpY_has
  dsimp only
  rcases rg_cases v1 with hb | ⟨r, hr, rfl⟩
  · exact xs_reg_bad hb (br_t rfl (ys_reg_bad hb (br_t rfl ⟨rfl, I⟩)))
  refine xs_reg hr (br_f (by decide) ?_)
  rcases rg_set v2 with hb | ⟨w, h1, hw, rfl⟩
  · exact xs_set_bad hb (br_t rfl (ys_reg hr (br_f (by decide) (ys_in_bad hb (br_t rfl ⟨rfl, I⟩)))))
  have J := I.2.2 r hr
  refine xs_set h1 hw (br_f (by decide) ⟨vp_in_nI hr (by decide), ?_⟩)
  rw [xs_cl (by omega)]
  refine xs_isIn hw (fun hb => ?_) (fun hb => ?_)
  · refine br_f (by decide) (ys_reg hr (br_f (by decide) (ys_set h1 hw (br_f (by decide) (ys_ask hr h1 hw J.2 (fun z => ?_) (fun _ => ⟨rfl, I⟩))))))
    rw [hb] at z; exact absurd z (by decide)
  · refine br_t rfl (ys_reg hr (br_f (by decide) (ys_set h1 hw (br_f (by decide) (ys_ask hr h1 hw J.2 (fun _ => ⟨rfl, I⟩) (fun z => ?_))))))
    rw [hb] at z; exact absurd z (by decide)
theorem ys_count {post : Int32 → Prop} {rw cl : Int32} {has now pl si : Nat → Int32} {ta : Nat → Int64} {r n : Nat} {b : Nat → Bool} (hr : r < 4) (hn : n < 6) (h : ys_H has r b) (hp : post (nI (cn_c (fun t => decide (1 ≤ t) && (b t && decide (ed_pc t = n + 1))) 64))) : ∃ m, wY_count_25 post (nI r) (nI n) rw cl has now pl ta si m 0 1 := by
  have l : ∀ d s, s + d = 64 → 1 ≤ s → wY_count_25 post (nI r) (nI n) rw cl has now pl ta si (d + 1) (nI (cn_c (fun t => decide (1 ≤ t) && (b t && decide (ed_pc t = n + 1))) s)) (nI s) := by
    intro d
    induction d with
    | zero =>
      intro s hs _
      have e : s = 64 := by omega
      subst e
      exact br_t ys_ge64 hp
    | succ d ih =>
      intro s hs h1
      have hm := ih (s + 1) (by omega) (by omega)
      rw [cn_s] at hm
      have hpc := ed_pc_le s
      refine br_f (ys_lt64 (by omega)) (ys_ask hr h1 (by omega) h (fun hb => ?_) (fun hb => ?_))
      · intro y ey
        rw [show (decide (1 ≤ s) && (b s && decide (ed_pc s = n + 1))) = false by simp [hb]] at hm
        rw [ey, nI_1]
        exact hm
      · refine ys_degree (by omega) ?_
        by_cases e : ed_pc s = n + 1
        · refine br_t ((ys_dk _ (by omega) n (by omega)).mpr e) (fun y ey z ez => ?_)
          rw [show (decide (1 ≤ s) && (b s && decide (ed_pc s = n + 1))) = true by simp [hb, e, h1]] at hm
          rw [ey, ez, nI_1, nI_1]
          exact hm
        · refine br_f (fun z => e ((ys_dk _ (by omega) n (by omega)).mp z)) (fun y ey => ?_)
          rw [show (decide (1 ≤ s) && (b s && decide (ed_pc s = n + 1))) = false by simp [e]] at hm
          rw [ey, nI_1]
          exact hm
  exact ⟨64, l 63 1 rfl (by omega)⟩
theorem i_vc_count {k : Nat} {u : SX} {v : SY} (I : i_Rel k u v) (hk : k + 5 ≤ 2560) (v1 : Int32) (v2 : Int32) : wpX_count (fun r => wpY_count (fun r' => r' = r ∧ i_Rel (k + 5) u v) v v1 v2) u v1 v2 := by
  obtain ⟨lev, held, place, cells⟩ := u
  obtain ⟨rw, cl, has, now, pl, ta, si⟩ := v
  have I : re_R lev held place has := I
  unfold wpX_count wpY_count
  dsimp only
  rcases rg_cases v1 with hb | ⟨r, hr, rfl⟩
  · exact xs_reg_bad hb (br_t rfl (ys_reg_bad hb (br_t rfl ⟨rfl, I⟩)))
  refine xs_reg hr (br_f (by decide) ?_)
  rcases rg_deg v2 with hb | ⟨n, hn, rfl⟩
  · exact xs_deg_bad hb (br_t rfl (ys_reg hr (br_f (by decide) (ys_in_bad hb (br_t rfl ⟨rfl, I⟩)))))
  have J := I.2.2 r hr
  refine xs_deg hn (br_f (by decide) ⟨vp_in_nI hr (by decide), ?_⟩)
  rw [xs_cl (by omega)]
  refine xs_ofDegree (by omega) (fun m hm => xs_size ?_)
  refine ys_reg hr (br_f (by decide) (ys_dg hn (br_f (by decide) (ys_count hr hn J.2 ⟨?_, I⟩))))
  rw [cn_congr hm]
  rfl
theorem i_vc_level {k : Nat} {u : SX} {v : SY} (I : i_Rel k u v) (hk : k + 5 ≤ 2560) (v1 : Int32) : wpX_level (fun r u' => wpY_level (fun r' => r' = r ∧ i_Rel (k + 5) u' v) v v1) u v1 := by
  obtain ⟨lev, held, place, cells⟩ := u
  obtain ⟨rw, cl, has, now, pl, ta, si⟩ := v
  have I : re_R lev held place has := I
  unfold wpX_level wpY_level
  dsimp only
  by_cases h0 : v1 < 0
  · have a : ¬ v1 = 0 := fun z => by rw [z] at h0; exact absurd h0 (by decide)
    have b : ¬ v1 = 1 := fun z => by rw [z] at h0; exact absurd h0 (by decide)
    exact br_t h0 (br_f a (br_f b ⟨rfl, I⟩))
  · obtain ⟨j, hj, rfl⟩ := nI_of h0
    refine br_f h0 ?_
    by_cases h1 : j ≤ 1
    · refine br_t (nI_le (b := 1) h1 (by decide)) ?_
      rcases (show j = 0 ∨ j = 1 by omega) with e | e
      · subst e
        exact br_t rfl ⟨rfl, ⟨Or.inl rfl, I.2.1, I.2.2⟩⟩
      · subst e
        exact br_f (by decide) (br_t rfl ⟨rfl, ⟨Or.inr rfl, I.2.1, I.2.2⟩⟩)
    · refine br_f (fun z => h1 ((nI_leI (b := 1) hj (by decide)).mp z)) (br_f (fun z => ?_) (br_f (fun z => ?_) ⟨rfl, I⟩))
      · have := (nI_eq (b := 0) hj (by decide)).mp z; omega
      · have := (nI_eq (b := 1) hj (by decide)).mp z; omega
end
section
/-! apply, link, skeleton -/
theorem op_cases (p : Int32) : (p < 0 ∨ 2 < p) ∨ (p = 0 ∨ p = 1 ∨ p = 2) := by
  by_cases h0 : p < 0
  · exact Or.inl (Or.inl h0)
  · obtain ⟨j, hj, rfl⟩ := nI_of h0
    by_cases h4 : j < 3
    · right
      rcases (show j = 0 ∨ j = 1 ∨ j = 2 by omega) with e | e | e
      · subst e; exact Or.inl rfl
      · subst e; exact Or.inr (Or.inl rfl)
      · subst e; exact Or.inr (Or.inr rfl)
    · exact Or.inl (Or.inr (nI_lt (a := 2) (by omega) hj))
/-- a loop of the reference that fills now and keeps it in register d -/
theorem ys_fin {post : Int32 → SY → Prop} {rw cl : Int32} {has now pl si : Nat → Int32} {ta : Nat → Int64} {d : Nat} {b : Nat → Bool} (hd : d < 4) (hn : ∀ s, 1 ≤ s → s < 64 → now s = if b s = true then 1 else 0) (hp : ∀ has' now', (∀ i, (∀ s, s < 64 → i ≠ 64 * d + s) → has' i = has i) → ys_H has' d b → post 1 (rw, cl, has', now', pl, ta, si)) : wpY_keep (fun u => match u with | (a, b, c, d, e, f, g) => post 1 (a, b, c, d, e, f, g)) (rw, cl, has, now, pl, ta, si) (nI d) :=
  ys_keep hd hn (fun has' f1 f2 => hp has' now f1 f2)
theorem ys_put {now : Nat → Int32} {b : Nat → Bool} {s : Nat} {x : Int32} (h : ∀ t, 1 ≤ t → t < s → now t = if b t = true then 1 else 0) (hx : x = if b s = true then 1 else 0) : ∀ t, 1 ≤ t → t < s + 1 → upd now s x t = if b t = true then 1 else 0 := by
  intro t t1 t2
  by_cases e : t = s
  · subst e; rw [xs_us, hx]
  · rw [xs_un e]; exact h t t1 (by omega)
theorem ys_x0 {b : Nat → Bool} {s : Nat} (h : b s = false) : vp_nar .boolean 0 = if b s = true then 1 else 0 := by rw [nb_v0, h]; rfl
theorem ys_x1 {b : Nat → Bool} {s : Nat} (h : b s = true) : vp_nar .boolean 1 = if b s = true then 1 else 0 := by rw [nb_v1, h]; rfl
theorem ys_link {post : Int32 → SY → Prop} {rw cl : Int32} {has now pl si : Nat → Int32} {ta : Nat → Int64} {d a w : Nat} {x : Int64} (hd : d < 4) (ha : a < 4) (hw : w < 64) (h : ys_H has a (mk_b x)) (hp : ∀ has' now', (∀ i, (∀ s, s < 64 → i ≠ 64 * d + s) → has' i = has i) → ys_H has' d (xs_li x w) → post 1 (rw, cl, has', now', pl, ta, si)) : ∃ n, wY_link_32 post (nI d) (nI a) (nI w) rw cl n 1 has now pl ta si := by
  have l : ∀ m s now', s + m = 64 → 1 ≤ s → (∀ t, 1 ≤ t → t < s → now' t = if xs_li x w t = true then 1 else 0) → wY_link_32 post (nI d) (nI a) (nI w) rw cl (m + 1) (nI s) has now' pl ta si := by
    intro m
    induction m with
    | zero =>
      intro s now' hs _ hn
      have e : s = 64 := by omega
      subst e
      exact br_t ys_ge64 (ys_fin hd hn hp)
    | succ m ih =>
      intro s now' hs h1 hn
      have hs64 : s < 64 := by omega
      have hi : vp_in (nI s) 64 := vp_in_nI hs64 (by decide)
      have hl := st_and_le s w
      have ho : s ||| w < 64 := st_or_lt hs64 hw
      have ho1 : 1 ≤ s ||| w := by
        have := @Nat.left_le_or s w
        omega
      refine br_f (ys_lt64 hs64) ?_
      rw [st_and, st_or]
      by_cases e : s &&& w = 0
      · refine br_t (by rw [e]; rfl) (ys_ask ha ho1 ho h (fun hb => ⟨hi, fun y ey z ez => ?_⟩) (fun hb => ⟨hi, fun y ey z ez => ?_⟩))
        · rw [ey, ez, nI_1, xs_cl (by omega)]
          exact ih (s + 1) _ (by omega) (by omega) (ys_put hn (ys_x0 (by unfold xs_li; simp [hb])))
        · rw [ey, ez, nI_1, xs_cl (by omega)]
          exact ih (s + 1) _ (by omega) (by omega) (ys_put hn (ys_x1 (by unfold xs_li; simp [hb, h1, e])))
      · refine br_f (fun z => e ((nI_eq (b := 0) (by omega) (by decide)).mp z)) ⟨hi, fun y ey z ez => ?_⟩
        rw [ey, ez, nI_1, xs_cl (by omega)]
        exact ih (s + 1) _ (by omega) (by omega) (ys_put hn (ys_x0 (by unfold xs_li; simp [e])))
  exact ⟨64, l 63 1 now rfl (by omega) (fun t t1 t2 => by omega)⟩
def xs_sk (x : Int64) (k t : Nat) : Bool := decide (1 ≤ t) && (mk_b x t && decide (ed_pc t ≤ k))
theorem ys_kd : ∀ a, a < 7 → ∀ k, k < 8 → (nI k < nI a - 1 ↔ k + 1 < a) := by decide +kernel
theorem ys_skel {post : Int32 → SY → Prop} {rw cl : Int32} {has now pl si : Nat → Int32} {ta : Nat → Int64} {d a k : Nat} {x : Int64} (hd : d < 4) (ha : a < 4) (hk : k < 6) (h : ys_H has a (mk_b x)) (hp : ∀ has' now', (∀ i, (∀ s, s < 64 → i ≠ 64 * d + s) → has' i = has i) → ys_H has' d (xs_sk x (k + 1)) → post 1 (rw, cl, has', now', pl, ta, si)) : ∃ n, wY_skeleton_31 post (nI d) (nI a) (nI k) rw cl n 1 has now pl ta si := by
  have l : ∀ m s now', s + m = 64 → 1 ≤ s → (∀ t, 1 ≤ t → t < s → now' t = if xs_sk x (k + 1) t = true then 1 else 0) → wY_skeleton_31 post (nI d) (nI a) (nI k) rw cl (m + 1) (nI s) has now' pl ta si := by
    intro m
    induction m with
    | zero =>
      intro s now' hs _ hn
      have e : s = 64 := by omega
      subst e
      exact br_t ys_ge64 (ys_fin hd hn hp)
    | succ m ih =>
      intro s now' hs h1 hn
      have hs64 : s < 64 := by omega
      have hi : vp_in (nI s) 64 := vp_in_nI hs64 (by decide)
      have hpc := ed_pc_le s
      refine br_f (ys_lt64 hs64) (ys_ask ha h1 hs64 h (fun hb => ⟨hi, fun y ey z ez => ?_⟩) (fun hb => ys_degree hs64 ?_))
      · rw [ey, ez, nI_1, xs_cl (by omega)]
        exact ih (s + 1) _ (by omega) (by omega) (ys_put hn (ys_x0 (by unfold xs_sk; simp [hb])))
      · by_cases e : k + 1 < ed_pc s
        · refine br_t ((ys_kd _ (by omega) k (by omega)).mpr e) ⟨hi, fun y ey z ez => ?_⟩
          rw [ey, ez, nI_1, xs_cl (by omega)]
          exact ih (s + 1) _ (by omega) (by omega) (ys_put hn (ys_x0 (by unfold xs_sk; simp; intros; omega)))
        · refine br_f (fun z => e ((ys_kd _ (by omega) k (by omega)).mp z)) ⟨hi, fun y ey z ez => ?_⟩
          rw [ey, ez, nI_1, xs_cl (by omega)]
          exact ih (s + 1) _ (by omega) (by omega) (ys_put hn (ys_x1 (by unfold xs_sk; simp [hb, h1]; omega)))
  exact ⟨64, l 63 1 now rfl (by omega) (fun t t1 t2 => by omega)⟩
theorem xs_pc1 : ∀ t, t < 64 → 1 ≤ t → 1 ≤ ed_pc t := by decide +kernel
theorem xs_skel {post : Int32 → SX → Prop} {lev : Int32} {held : Nat → Int64} {place cells : Nat → Int32} {d a k : Nat} (hd : d < 4) (ha : a < 4) (hk : k < 6) (hp : ∀ r, (∀ t, t < 64 → mk_b r t = xs_sk (held a) (k + 1) t) → post 1 (lev, vp_updL held d r, place, cells)) : ∃ n, wX_skeleton_29 post (nI d) (nI a) (nI k) lev held place cells n 0 0 := by
  have l : ∀ m s acc, s + m = k + 1 → (∀ t, t < 64 → mk_b acc t = xs_sk (held a) s t) → wX_skeleton_29 post (nI d) (nI a) (nI k) lev held place cells (m + 1) acc (nI s) := by
    intro m
    induction m with
    | zero =>
      intro s acc hs h
      have e : s = k + 1 := by omega
      subst e
      refine br_t (nI_lt (by omega) (by omega)) ⟨vp_in_nI hd (by decide), fun y ey => ?_⟩
      rw [ey, xs_cl (by omega)]
      exact hp acc h
    | succ m ih =>
      intro s acc hs h
      refine br_f (nI_nlt (by omega) (by omega)) ⟨vp_in_nI ha (by decide), ?_⟩
      rw [xs_cl (by omega)]
      refine xs_ofDegree (by omega) (fun r hr y ey z ez => ?_)
      rw [ey, ez, nI_1]
      refine ih (s + 1) _ (by omega) (fun t ht => ?_)
      rw [mk_or, h t ht, hr t ht]
      unfold xs_sk xs_dg
      by_cases e1 : ed_pc t = s + 1
      · rw [decide_eq_true e1, decide_eq_true (show ed_pc t ≤ s + 1 by omega), decide_eq_false (show ¬ ed_pc t ≤ s by omega)]
        simp
      · rw [decide_eq_false e1]
        by_cases e2 : ed_pc t ≤ s
        · rw [decide_eq_true e2, decide_eq_true (show ed_pc t ≤ s + 1 by omega)]; simp
        · rw [decide_eq_false e2, decide_eq_false (show ¬ ed_pc t ≤ s + 1 by omega)]; simp
  refine ⟨k + 1 + 1, l (k + 1) 0 0 (by omega) (fun t ht => ?_)⟩
  rw [mk_0]
  unfold xs_sk
  by_cases h : 1 ≤ t
  · have := xs_pc1 t ht h
    rw [decide_eq_false (show ¬ ed_pc t ≤ 0 by omega)]; simp
  · rw [decide_eq_false h]; rfl
/-- both sides take a new register -/
theorem re_put {lev : Int32} {held : Nat → Int64} {place has has' : Nat → Int32} {d : Nat} {m : Int64} (I : re_R lev held place has) (f1 : ∀ i, (∀ s, s < 64 → i ≠ 64 * d + s) → has' i = has i) (hc : re_C m) (hh : ys_H has' d (mk_b m)) : re_R lev (vp_updL held d m) place has' :=
  re_upd I (fun q hq => xs_uLn hq) f1 (by rw [xs_uLs]; exact hc) (by rw [xs_uLs]; exact hh)
theorem re_Hof {has : Nat → Int32} {d : Nat} {m : Int64} {b : Nat → Bool} (hm : ∀ t, t < 64 → mk_b m t = b t) (h : ys_H has d b) : ys_H has d (mk_b m) := by
  intro s s1 s2
  rw [hm s s2]
  exact h s s1 s2
theorem re_li {x m : Int64} {w : Nat} (hx : re_C x) (hw : w < 64) (hm : ∀ t, t < 64 → mk_b m t = xs_li x w t) : re_C m := by
  refine re_Cof _ hm (by unfold xs_li; simp) (fun s t h1 hs ht hst z => ?_)
  unfold xs_li at z ⊢
  simp only [Bool.and_eq_true, decide_eq_true_iff] at z ⊢
  obtain ⟨z1, z2, z3⟩ := z
  refine ⟨h1, ?_, hx.2 (s ||| w) (t ||| w) ?_ (st_or_lt ht hw) ?_ z3⟩
  · rw [← hst, Nat.and_assoc, z2, Nat.and_zero]
  · have := @Nat.left_le_or s w
    omega
  · apply Nat.eq_of_testBit_eq
    intro i
    have e := congrArg (fun x => x.testBit i) hst
    simp only [Nat.testBit_and, Nat.testBit_or] at e ⊢
    revert e
    cases s.testBit i <;> cases t.testBit i <;> cases w.testBit i <;> simp
theorem re_pc : ∀ s, s < 64 → ∀ t, t < 64 → s &&& t = s → ed_pc s ≤ ed_pc t := by decide +kernel
theorem re_sk {x m : Int64} {k : Nat} (hx : re_C x) (hm : ∀ t, t < 64 → mk_b m t = xs_sk x k t) : re_C m := by
  refine re_Cof _ hm (by unfold xs_sk; simp) (fun s t h1 hs ht hst z => ?_)
  unfold xs_sk at z ⊢
  simp only [Bool.and_eq_true, decide_eq_true_iff] at z ⊢
  have := re_pc s hs t ht hst
  exact ⟨h1, hx.2 s t h1 ht hst z.2.1, by omega⟩
theorem re_63 : ∀ s, s < 64 → ∀ t, t < 63 → s &&& t = s → s < 63 ∧ 1 ≤ 63 ^^^ t ∧ (63 ^^^ t) &&& (63 ^^^ s) = 63 ^^^ t := by decide +kernel
theorem re_du {x m : Int64} (hx : re_C x) (hm : ∀ t, t < 64 → mk_b m t = xs_du x t) : re_C m := by
  refine re_Cof _ hm (by unfold xs_du; simp) (fun s t h1 hs ht hst z => ?_)
  unfold xs_du at z ⊢
  simp only [Bool.and_eq_true, decide_eq_true_iff, Bool.not_eq_true'] at z ⊢
  obtain ⟨z1, z2, z3⟩ := z
  obtain ⟨a, b, c⟩ := re_63 s hs t z2 hst
  refine ⟨h1, a, ?_⟩
  cases hb : mk_b x (63 ^^^ s)
  · rfl
  · rw [hx.2 _ _ b (xs_63 s hs) c hb] at z3
    exact z3
theorem i_vc_link {k : Nat} {u : SX} {v : SY} (I : i_Rel k u v) (hk : k + 5 ≤ 2560) (v1 : Int32) (v2 : Int32) (v3 : Int32) : wpX_link (fun r u' => wpY_link (fun r' v' => r' = r ∧ i_Rel (k + 5) u' v') v v1 v2 v3) u v1 v2 v3 := by
  obtain ⟨lev, held, place, cells⟩ := u
  obtain ⟨rw, cl, has, now, pl, ta, si⟩ := v
  have I : re_R lev held place has := I
  unfold wpX_link wpY_link
  dsimp only
  rcases rg_cases v1 with hb | ⟨d, hd, rfl⟩
  · exact xs_reg_bad hb (br_t rfl (ys_reg_bad hb (br_t rfl ⟨rfl, I⟩)))
  refine xs_reg hd (br_f (by decide) ?_)
  rcases rg_cases v2 with hb | ⟨a, ha, rfl⟩
  · exact xs_reg_bad hb (br_t rfl (ys_reg hd (br_f (by decide) (ys_reg_bad hb (br_t rfl ⟨rfl, I⟩)))))
  refine xs_reg ha (br_f (by decide) ?_)
  rcases rg_set v3 with hb | ⟨w, h1, hw, rfl⟩
  · exact xs_set_bad hb (br_t rfl (ys_reg hd (br_f (by decide) (ys_reg ha (br_f (by decide) (ys_in_bad hb (br_t rfl ⟨rfl, I⟩)))))))
  have J := I.2.2 a ha
  refine xs_set h1 hw (br_f (by decide) ⟨vp_in_nI ha (by decide), ?_⟩)
  rw [xs_cl (by omega), xs_cl (by omega)]
  refine xs_linkOf hw (fun m hm => ⟨vp_in_nI hd (by decide), fun y ey => ?_⟩)
  rw [ey]
  exact ys_reg hd (br_f (by decide) (ys_reg ha (br_f (by decide) (ys_set h1 hw (br_f (by decide) (ys_link hd ha hw J.2 (fun has' now' f1 f2 => ⟨rfl, re_put I f1 (re_li J.1 hw hm) (re_Hof hm f2)⟩)))))))
theorem i_vc_skeleton {k : Nat} {u : SX} {v : SY} (I : i_Rel k u v) (hk : k + 5 ≤ 2560) (v1 : Int32) (v2 : Int32) (v3 : Int32) : wpX_skeleton (fun r u' => wpY_skeleton (fun r' v' => r' = r ∧ i_Rel (k + 5) u' v') v v1 v2 v3) u v1 v2 v3 := by
  obtain ⟨lev, held, place, cells⟩ := u
  obtain ⟨rw, cl, has, now, pl, ta, si⟩ := v
  have I : re_R lev held place has := I
  unfold wpX_skeleton wpY_skeleton
  dsimp only
  rcases rg_cases v1 with hb | ⟨d, hd, rfl⟩
  · exact xs_reg_bad hb (br_t rfl (ys_reg_bad hb (br_t rfl ⟨rfl, I⟩)))
  refine xs_reg hd (br_f (by decide) ?_)
  rcases rg_cases v2 with hb | ⟨a, ha, rfl⟩
  · exact xs_reg_bad hb (br_t rfl (ys_reg hd (br_f (by decide) (ys_reg_bad hb (br_t rfl ⟨rfl, I⟩)))))
  refine xs_reg ha (br_f (by decide) ?_)
  rcases rg_deg v3 with hb | ⟨n, hn, rfl⟩
  · exact xs_deg_bad hb (br_t rfl (ys_reg hd (br_f (by decide) (ys_reg ha (br_f (by decide) (ys_in_bad hb (br_t rfl ⟨rfl, I⟩)))))))
  have J := I.2.2 a ha
  refine xs_deg hn (br_f (by decide) (xs_skel hd ha hn (fun m hm => ?_)))
  exact ys_reg hd (br_f (by decide) (ys_reg ha (br_f (by decide) (ys_dg hn (br_f (by decide) (ys_skel hd ha hn J.2 (fun has' now' f1 f2 => ⟨rfl, re_put I f1 (re_sk J.1 hm) (re_Hof hm f2)⟩)))))))
/-! apply -/
def xs_op (o : Nat) (x y : Int64) (t : Nat) : Bool := if o = 0 then mk_b x t || mk_b y t else if o = 1 then mk_b x t && mk_b y t else xs_du x t
theorem ys_apply {post : Int32 → SY → Prop} {rw cl : Int32} {has now pl si : Nat → Int32} {ta : Nat → Int64} {o d a b : Nat} {x y : Int64} (ho : o = 0 ∨ o = 1 ∨ o = 2) (hd : d < 4) (ha : a < 4) (hb : b < 4) (h : ys_H has a (mk_b x)) (h' : ys_H has b (mk_b y)) (hp : ∀ has' now', (∀ i, (∀ s, s < 64 → i ≠ 64 * d + s) → has' i = has i) → ys_H has' d (xs_op o x y) → post 1 (rw, cl, has', now', pl, ta, si)) : ∃ n, wY_apply_40 post (nI o) (nI d) (nI a) (nI b) rw cl n 1 has now pl ta si := by
  have l : ∀ m s now', s + m = 64 → 1 ≤ s → (∀ t, 1 ≤ t → t < s → now' t = if xs_op o x y t = true then 1 else 0) → wY_apply_40 post (nI o) (nI d) (nI a) (nI b) rw cl (m + 1) (nI s) has now' pl ta si := by
    intro m
    induction m with
    | zero =>
      intro s now' hs _ hn
      have e : s = 64 := by omega
      subst e
      exact br_t ys_ge64 (ys_fin hd hn hp)
    | succ m ih =>
      intro s now' hs h1 hn
      have hs64 : s < 64 := by omega
      have hi : vp_in (nI s) 64 := vp_in_nI hs64 (by decide)
      have put0 : xs_op o x y s = false → vp_in (nI s) 64 ∧ ∀ y1, y1 = upd now' (nI s).toNatClampNeg (vp_nar .boolean 0) → ∀ z, z = nI s + 1 → wY_apply_40 post (nI o) (nI d) (nI a) (nI b) rw cl (m + 1) z has y1 pl ta si := by
        intro hf
        refine ⟨hi, fun y1 ey z ez => ?_⟩
        rw [ey, ez, nI_1, xs_cl (by omega)]
        exact ih (s + 1) _ (by omega) (by omega) (ys_put hn (ys_x0 hf))
      have put1 : xs_op o x y s = true → vp_in (nI s) 64 ∧ ∀ y1, y1 = upd now' (nI s).toNatClampNeg (vp_nar .boolean 1) → ∀ z, z = nI s + 1 → wY_apply_40 post (nI o) (nI d) (nI a) (nI b) rw cl (m + 1) z has y1 pl ta si := by
        intro hf
        refine ⟨hi, fun y1 ey z ez => ?_⟩
        rw [ey, ez, nI_1, xs_cl (by omega)]
        exact ih (s + 1) _ (by omega) (by omega) (ys_put hn (ys_x1 hf))
      have va : vp_in ((64 : Int32) * nI a + nI s) 256 := by rw [ys_ix]; exact ys_vi ha hs64
      have vb : vp_in ((64 : Int32) * nI b + nI s) 256 := by rw [ys_ix]; exact ys_vi hb hs64
      refine br_f (ys_lt64 hs64) ⟨va, fun x6 e6 => ⟨vb, fun x7 e7 => ?_⟩⟩
      rw [ys_ix, ys_cl ha hs64] at e6
      rw [ys_ix, ys_cl hb hs64] at e7
      have q6 : x6 = 0 ↔ mk_b x s = false := by rw [e6]; exact ys_H0 h h1 hs64
      have q7 : x7 = 0 ↔ mk_b y s = false := by rw [e7]; exact ys_H0 h' h1 hs64
      rcases ho with e | e | e
      · subst e
        refine br_t rfl ?_
        by_cases c6 : x6 = 0
        · refine br_t c6 ?_
          by_cases c7 : x7 = 0
          · exact br_t c7 (put0 (by unfold xs_op; rw [if_pos rfl, q6.mp c6, q7.mp c7]; rfl))
          · exact br_f c7 (put1 (by
              unfold xs_op
              rw [if_pos rfl]
              cases hh : mk_b y s
              · exact absurd (q7.mpr hh) c7
              · rw [Bool.or_true]))
        · exact br_f c6 (put1 (by
            unfold xs_op
            rw [if_pos rfl]
            cases hh : mk_b x s
            · exact absurd (q6.mpr hh) c6
            · rfl))
      · subst e
        refine br_f (by decide) (br_t rfl ?_)
        by_cases c6 : x6 = 0
        · exact br_t c6 (put0 (by unfold xs_op; rw [if_neg (by decide), if_pos rfl, q6.mp c6]; rfl))
        · refine br_f c6 ?_
          by_cases c7 : x7 = 0
          · exact br_t c7 (put0 (by unfold xs_op; rw [if_neg (by decide), if_pos rfl, q7.mp c7, Bool.and_false]))
          · exact br_f c7 (put1 (by
              unfold xs_op
              rw [if_neg (by decide), if_pos rfl]
              cases hh : mk_b y s
              · exact absurd (q7.mpr hh) c7
              · cases hg : mk_b x s
                · exact absurd (q6.mpr hg) c6
                · rfl))
      · subst e
        have eo : ∀ t, xs_op 2 x y t = xs_du x t := fun t => by unfold xs_op; rw [if_neg (by decide), if_neg (by decide)]
        refine br_f (by decide) (br_f (by decide) ?_)
        by_cases c : s = 63
        · refine br_t (by subst c; exact nI_le (a := 63) (b := 63) (by omega) (by decide)) (put0 ?_)
          rw [eo, c]; unfold xs_du; simp
        · refine br_f (nI_ge (b := 63) (by omega) (by decide)) ?_
          have e63 : (63 : Int32) - nI s = nI (63 ^^^ s) := by
            have : ∀ s, s < 64 → (63 : Int32) - nI s = nI (63 ^^^ s) := by decide +kernel
            exact this s hs64
          have g1 : 1 ≤ 63 ^^^ s := by
            have : ∀ s, s < 63 → 1 ≤ 63 ^^^ s := by decide +kernel
            exact this s (by omega)
          rw [e63]
          refine ys_ask ha g1 (xs_63 s hs64) h (fun hh => put1 ?_) (fun hh => put0 ?_)
          · rw [eo]; unfold xs_du; simp [hh, h1]; omega
          · rw [eo]; unfold xs_du; simp [hh]
  exact ⟨64, l 63 1 now rfl (by omega) (fun t t1 t2 => by omega)⟩
theorem re_op {o : Nat} {x y m : Int64} (hx : re_C x) (hy : re_C y) (hm : ∀ t, t < 64 → mk_b m t = xs_op o x y t) : re_C m := by
  by_cases e0 : o = 0
  · refine re_Cof _ hm (by unfold xs_op; rw [if_pos e0, hx.1, hy.1]; rfl) (fun s t h1 hs ht hst z => ?_)
    unfold xs_op at z ⊢
    rw [if_pos e0, Bool.or_eq_true] at z ⊢
    rcases z with z | z
    · exact Or.inl (hx.2 s t h1 ht hst z)
    · exact Or.inr (hy.2 s t h1 ht hst z)
  · by_cases e1 : o = 1
    · refine re_Cof _ hm (by unfold xs_op; rw [if_neg e0, if_pos e1, hx.1]; rfl) (fun s t h1 hs ht hst z => ?_)
      unfold xs_op at z ⊢
      rw [if_neg e0, if_pos e1, Bool.and_eq_true] at z ⊢
      exact ⟨hx.2 s t h1 ht hst z.1, hy.2 s t h1 ht hst z.2⟩
    · exact re_du hx (fun t ht => by rw [hm t ht]; unfold xs_op; rw [if_neg e0, if_neg e1])
theorem i_vc_apply {k : Nat} {u : SX} {v : SY} (I : i_Rel k u v) (hk : k + 5 ≤ 2560) (v1 : Int32) (v2 : Int32) (v3 : Int32) (v4 : Int32) : wpX_apply (fun r u' => wpY_apply (fun r' v' => r' = r ∧ i_Rel (k + 5) u' v') v v1 v2 v3 v4) u v1 v2 v3 v4 := by
  obtain ⟨lev, held, place, cells⟩ := u
  obtain ⟨rw, cl, has, now, pl, ta, si⟩ := v
  have I : re_R lev held place has := I
  have yin : ∀ {post : Int32 → Prop} {v : SY}, v1 = 0 ∨ v1 = 1 ∨ v1 = 2 → post 1 → wpY_in post v v1 0 2 := by
    intro post v ho hp
    rcases ho with e | e | e
    · subst e; exact ys_in (by decide) (by decide) hp
    · subst e; exact ys_in (by decide) (by decide) hp
    · subst e; exact ys_in (by decide) (by decide) hp
  unfold wpX_apply wpY_apply
  dsimp only
  rcases rg_cases v2 with hb | ⟨d, hd, rfl⟩
  · refine xs_reg_bad hb (br_t rfl ?_)
    rcases op_cases v1 with ob | ho
    · exact ys_in_bad ob (br_t rfl ⟨rfl, I⟩)
    · exact yin ho (br_f (by decide) (ys_reg_bad hb (br_t rfl ⟨rfl, I⟩)))
  refine xs_reg hd (br_f (by decide) ?_)
  rcases rg_cases v3 with hb | ⟨a, ha, rfl⟩
  · refine xs_reg_bad hb (br_t rfl ?_)
    rcases op_cases v1 with ob | ho
    · exact ys_in_bad ob (br_t rfl ⟨rfl, I⟩)
    · exact yin ho (br_f (by decide) (ys_reg hd (br_f (by decide) (ys_reg_bad hb (br_t rfl ⟨rfl, I⟩)))))
  refine xs_reg ha (br_f (by decide) ?_)
  rcases rg_cases v4 with hb | ⟨b, hb, rfl⟩
  · refine xs_reg_bad hb (br_t rfl ?_)
    rcases op_cases v1 with ob | ho
    · exact ys_in_bad ob (br_t rfl ⟨rfl, I⟩)
    · exact yin ho (br_f (by decide) (ys_reg hd (br_f (by decide) (ys_reg ha (br_f (by decide) (ys_reg_bad hb (br_t rfl ⟨rfl, I⟩)))))))
  refine xs_reg hb (br_f (by decide) ?_)
  rcases op_cases v1 with ob | ho
  · by_cases h0 : v1 < 0
    · exact br_t h0 (ys_in_bad ob (br_t rfl ⟨rfl, I⟩))
    · exact br_f h0 (br_t (ob.resolve_left h0) (ys_in_bad ob (br_t rfl ⟨rfl, I⟩)))
  have J := I.2.2 a ha
  have K := I.2.2 b hb
  have va : vp_in (nI a) 4 := vp_in_nI ha (by decide)
  have vb : vp_in (nI b) 4 := vp_in_nI hb (by decide)
  have vd : vp_in (nI d) 4 := vp_in_nI hd (by decide)
  rw [xs_cl (j := a) (by omega), xs_cl (j := b) (by omega), xs_cl (j := d) (by omega)]
  have fin : ∀ (o : Nat) (m : Int64), (o = 0 ∨ o = 1 ∨ o = 2) → v1 = nI o → (∀ t, t < 64 → mk_b m t = xs_op o (held a) (held b) t) → wpY_in (fun r_1 => ((r_1 = 0 → (0 : Int32) = 1 ∧ i_Rel (k + 5) (lev, vp_updL held d m, place, cells) (rw, cl, has, now, pl, ta, si)) ∧ (¬ r_1 = 0 → wpY_isRegister (fun r_10 => ((r_10 = 0 → (0 : Int32) = 1 ∧ i_Rel (k + 5) (lev, vp_updL held d m, place, cells) (rw, cl, has, now, pl, ta, si)) ∧ (¬ r_10 = 0 → wpY_isRegister (fun r_19 => ((r_19 = 0 → (0 : Int32) = 1 ∧ i_Rel (k + 5) (lev, vp_updL held d m, place, cells) (rw, cl, has, now, pl, ta, si)) ∧ (¬ r_19 = 0 → wpY_isRegister (fun r_28 => ((r_28 = 0 → (0 : Int32) = 1 ∧ i_Rel (k + 5) (lev, vp_updL held d m, place, cells) (rw, cl, has, now, pl, ta, si)) ∧ (¬ r_28 = 0 → ∃ n40, wY_apply_40 (fun r' v' => r' = 1 ∧ i_Rel (k + 5) (lev, vp_updL held d m, place, cells) v') v1 (nI d) (nI a) (nI b) rw cl n40 1 has now pl ta si))) (rw, cl, has, now, pl, ta, si) (nI b)))) (rw, cl, has, now, pl, ta, si) (nI a)))) (rw, cl, has, now, pl, ta, si) (nI d)))) (rw, cl, has, now, pl, ta, si) v1 0 2 := by
    intro o m o3 eo hm
    refine yin ho (br_f (by decide) (ys_reg hd (br_f (by decide) (ys_reg ha (br_f (by decide) (ys_reg hb (br_f (by decide) ?_)))))))
    rw [eo]
    exact ys_apply o3 hd ha hb J.2 K.2 (fun has' now' f1 f2 => ⟨rfl, re_put I f1 (re_op J.1 K.1 hm) (re_Hof hm f2)⟩)
  rcases ho with e | e | e
  · refine br_f (by rw [e]; decide) (br_f (by rw [e]; decide) (br_t e ⟨va, vb, vd, fun y ey => ?_⟩))
    rw [ey]
    exact fin 0 _ (Or.inl rfl) e (fun t ht => by rw [mk_or]; rfl)
  · refine br_f (by rw [e]; decide) (br_f (by rw [e]; decide) (br_f (by rw [e]; decide) (br_t e ⟨va, vb, vd, fun y ey => ?_⟩)))
    rw [ey]
    exact fin 1 _ (Or.inr (Or.inl rfl)) e (fun t ht => by rw [mk_and]; rfl)
  · refine br_f (by rw [e]; decide) (br_f (by rw [e]; decide) (br_f (by rw [e]; decide) (br_f (by rw [e]; decide) (br_t e ⟨va, xs_dualOf (fun m hm => ⟨vd, fun y ey => ?_⟩)⟩))))
    rw [ey]
    exact fin 2 m (Or.inr (Or.inr rfl)) e (fun t ht => by rw [hm t ht]; rfl)
end
section
/-! balance -/
def ba_x (x : Int64) : Nat → Int32
  | 0 => 0
  | d + 1 => if d % 2 = 0 then ba_x x d + nI (cn_c (xs_dg x (d + 1)) 64) else ba_x x d + (- nI (cn_c (xs_dg x (d + 1)) 64))
theorem ba_e2 : ∀ d, d < 6 → (nI d - nI d / 2 * 2 = 0 ↔ d % 2 = 0) := by decide +kernel
theorem ba_o2 : ∀ a, a < 7 → ((nI a - 1) - (nI a - 1) / 2 * 2 = 0 ↔ a % 2 = 1) := by decide +kernel
theorem xs_balance {post : Int32 → Prop} {lev : Int32} {held : Nat → Int64} {place cells : Nat → Int32} {r : Nat} (hr : r < 4) (hp : post (ba_x (held r) 6)) : ∃ n, wX_balance_13 post (nI r) lev held place cells n 0 0 := by
  have l : ∀ m d, d + m = 6 → wX_balance_13 post (nI r) lev held place cells (m + 1) (ba_x (held r) d) (nI d) := by
    intro m
    induction m with
    | zero =>
      intro d hd
      have e : d = 6 := by omega
      subst e
      exact br_t (nI_lt (a := 5) (b := 6) (by omega) (by decide)) hp
    | succ m ih =>
      intro d hd
      have hn := ih (d + 1) (by omega)
      refine br_f (fun z => absurd ((nI_ltI (a := 5) (by decide) (by omega)).mp z) (by omega)) ⟨vp_in_nI hr (by decide), ?_⟩
      rw [xs_cl (by omega)]
      refine xs_ofDegree (by omega) (fun w hw => xs_size ⟨by decide, ?_⟩)
      rw [cn_congr hw]
      by_cases e : d % 2 = 0
      · refine br_t ((ba_e2 d (by omega)).mpr e) (fun y ey z ez => ?_)
        rw [show ba_x (held r) (d + 1) = ba_x (held r) d + nI (cn_c (xs_dg (held r) (d + 1)) 64) from if_pos e] at hn
        rw [ey, ez, nI_1]
        exact hn
      · refine br_f (fun z => e ((ba_e2 d (by omega)).mp z)) (fun y ey z ez => ?_)
        rw [show ba_x (held r) (d + 1) = ba_x (held r) d + (- nI (cn_c (xs_dg (held r) (d + 1)) 64)) from if_neg e] at hn
        rw [ey, ez, nI_1]
        exact hn
  exact ⟨7, l 6 0 rfl⟩
def ba_y (x : Int64) : Nat → Int32
  | 0 => 0
  | s + 1 => if mk_b x s = true ∧ 1 ≤ s then (if ed_pc s % 2 = 1 then ba_y x s + 1 else ba_y x s + (-1)) else ba_y x s
theorem ys_balance {post : Int32 → Prop} {rw cl : Int32} {has now pl si : Nat → Int32} {ta : Nat → Int64} {r : Nat} {x : Int64} (hr : r < 4) (h : ys_H has r (mk_b x)) (hp : post (ba_y x 64)) : ∃ n, wY_balance_14 post (nI r) rw cl has now pl ta si n 0 1 := by
  have l : ∀ m s, s + m = 64 → 1 ≤ s → wY_balance_14 post (nI r) rw cl has now pl ta si (m + 1) (ba_y x s) (nI s) := by
    intro m
    induction m with
    | zero =>
      intro s hs _
      have e : s = 64 := by omega
      subst e
      exact br_t ys_ge64 hp
    | succ m ih =>
      intro s hs h1
      have hn := ih (s + 1) (by omega) (by omega)
      have hpc := ed_pc_le s
      refine br_f (ys_lt64 (by omega)) (ys_ask hr h1 (by omega) h (fun hb => ?_) (fun hb => ?_))
      · intro y ey
        rw [show ba_y x (s + 1) = ba_y x s from if_neg (fun z => by rw [hb] at z; exact absurd z.1 (by decide))] at hn
        rw [ey, nI_1]
        exact hn
      · refine ys_degree (by omega) ⟨by decide, ?_⟩
        have e1 : ba_y x (s + 1) = (if ed_pc s % 2 = 1 then ba_y x s + 1 else ba_y x s + (-1)) := if_pos ⟨hb, h1⟩
        by_cases e : ed_pc s % 2 = 1
        · refine br_t ((ba_o2 _ (by omega)).mpr e) (fun y ey z ez => ?_)
          rw [e1, if_pos e] at hn
          rw [ey, ez, nI_1]
          exact hn
        · refine br_f (fun z => e ((ba_o2 _ (by omega)).mp z)) (fun y ey z ez => ?_)
          rw [e1, if_neg e] at hn
          rw [ey, ez, nI_1]
          exact hn
  have := l 63 1 rfl (by omega)
  rw [show ba_y x 1 = 0 from if_neg (fun z => absurd z.2 (by decide))] at this
  exact ⟨64, this⟩
theorem ba_eq (x : Int64) : ∀ n, n ≤ 64 → ba_y x n = ((((((0 + nI (cn_c (xs_dg x 1) n)) + (- nI (cn_c (xs_dg x 2) n))) + nI (cn_c (xs_dg x 3) n)) + (- nI (cn_c (xs_dg x 4) n))) + nI (cn_c (xs_dg x 5) n)) + (- nI (cn_c (xs_dg x 6) n))) := by
  intro n
  induction n with
  | zero => intro _; show (0 : Int32) = 0 + nI 0 + -nI 0 + nI 0 + -nI 0 + nI 0 + -nI 0; decide
  | succ n ih =>
    intro hn
    have e := ih (by omega)
    simp only [cn_s]
    by_cases c : mk_b x n = true ∧ 1 ≤ n
    · have hp1 := xs_pc1 n (by omega) c.2
      have hp6 := ed_pc_le n
      have d : ∀ k, xs_dg x k n = decide (ed_pc n = k) := fun k => by unfold xs_dg; simp [c.1, c.2]
      rw [show ba_y x (n + 1) = (if ed_pc n % 2 = 1 then ba_y x n + 1 else ba_y x n + (-1)) from if_pos c, e]
      simp only [d]
      rcases (show ed_pc n = 1 ∨ ed_pc n = 2 ∨ ed_pc n = 3 ∨ ed_pc n = 4 ∨ ed_pc n = 5 ∨ ed_pc n = 6 by omega) with q | q | q | q | q | q <;> rw [q] <;> simp only [show (1 : Nat) % 2 = 1 from rfl, show (2 : Nat) % 2 = 0 from rfl, show (3 : Nat) % 2 = 1 from rfl, show (4 : Nat) % 2 = 0 from rfl, show (5 : Nat) % 2 = 1 from rfl, show (6 : Nat) % 2 = 0 from rfl, if_true] <;> simp <;> simp only [← nI_1] <;> grind
    · have d : ∀ k, xs_dg x k n = false := by
        intro k
        unfold xs_dg
        by_cases h1 : 1 ≤ n
        · have : mk_b x n = false := by
            cases hb : mk_b x n
            · rfl
            · exact absurd ⟨hb, h1⟩ c
          simp [this]
        · simp [h1]
      rw [show ba_y x (n + 1) = ba_y x n from if_neg c, e]
      simp [d]
theorem ba_xy (x : Int64) : ba_y x 64 = ba_x x 6 := by
  rw [ba_eq x 64 (Nat.le_refl 64)]
  rfl
theorem i_vc_balance {k : Nat} {u : SX} {v : SY} (I : i_Rel k u v) (hk : k + 5 ≤ 2560) (v1 : Int32) : wpX_balance (fun r => wpY_balance (fun r' => r' = r ∧ i_Rel (k + 5) u v) v v1) u v1 := by
  obtain ⟨lev, held, place, cells⟩ := u
  obtain ⟨rw, cl, has, now, pl, ta, si⟩ := v
  have I : re_R lev held place has := I
  unfold wpX_balance wpY_balance
  dsimp only
  rcases rg_cases v1 with hb | ⟨r, hr, rfl⟩
  · exact xs_reg_bad hb (br_t rfl (ys_reg_bad hb (br_t rfl ⟨rfl, I⟩)))
  have J := I.2.2 r hr
  exact xs_reg hr (br_f (by decide) (xs_balance hr (ys_reg hr (br_f (by decide) (ys_balance hr J.2 ⟨ba_xy _, I⟩)))))
/-! facets -/
theorem fa_0 (x : Int64) {p : Nat} (hw : p < 64) : cn_c (xs_wh x p) p = 0 := by
  have e : ∀ n, cn_c (fun _ => false) n = 0 := by
    intro n
    induction n with
    | zero => rfl
    | succ n ih => rw [cn_s, ih]; rfl
  have : cn_c (xs_wh x p) p ≤ cn_c (fun _ => false) p := cn_imp (fun i hi h => by
    unfold xs_wh at h
    rw [Bool.and_eq_true, decide_eq_true_iff] at h
    have := xs_le p hw i (by omega) h.2
    omega)
  rw [e] at this
  omega
theorem fa_iff {x : Int64} {t : Nat} (ht : t < 64) (hb : mk_b x t = true) : cn_c (xs_wh x t) 64 = 1 ↔ ∀ s, t < s → s < 64 → xs_wh x t s = false := by
  have h0 := fa_0 x ht
  have hs : xs_wh x t t = true := by unfold xs_wh; simp [hb]
  constructor
  · intro h s h1 h2
    cases hx : xs_wh x t s
    · rfl
    · have a := cn_lt h1 hs
      have b := cn_lt h2 hx
      omega
  · intro h
    have l : ∀ d, t + 1 + d ≤ 64 → cn_c (xs_wh x t) (t + 1 + d) = 1 := by
      intro d
      induction d with
      | zero => intro _; rw [Nat.add_zero, cn_s, h0, hs]; rfl
      | succ d ih =>
        intro hd
        rw [show t + 1 + (d + 1) = (t + 1 + d) + 1 by omega, cn_s, ih (by omega), h _ (by omega) (by omega)]
        rfl
    have := l (63 - t) (by omega)
    rw [show t + 1 + (63 - t) = 64 by omega] at this
    exact this
theorem ys_isFacet {post : Int32 → Prop} {rw cl : Int32} {has now pl si : Nat → Int32} {ta : Nat → Int64} {r t : Nat} {x : Int64} (hr : r < 4) (h1 : 1 ≤ t) (ht : t < 64) (h : ys_H has r (mk_b x)) (hT : xs_fa x t = true → post 1) (hF : xs_fa x t = false → post 0) : wpY_isFacet post (rw, cl, has, now, pl, ta, si) (nI r) (nI t) := by
  refine ys_ask hr h1 ht h (fun hb => hF (by unfold xs_fa; simp [hb])) (fun hb => ?_)
  have hfa : (∀ s, t < s → s < 64 → xs_wh x t s = false) → post 1 := fun z => hT (by unfold xs_fa; rw [(fa_iff ht hb).mpr z, hb]; simp [h1])
  have hno : ∀ s, t < s → s < 64 → xs_wh x t s = true → post 0 := fun s s1 s2 z => hF (by
    unfold xs_fa
    have : ¬ cn_c (xs_wh x t) 64 = 1 := fun q => by
      rw [(fa_iff ht hb).mp q s s1 s2] at z
      exact absurd z (by decide)
    simp [this])
  have l : ∀ m s, s + m = 64 → t < s → (∀ q, t < q → q < s → xs_wh x t q = false) → wY_isFacet_20 post (nI r) (nI t) rw cl has now pl ta si (m + 1) (nI s) := by
    intro m
    induction m with
    | zero =>
      intro s hs _ hq
      have e : s = 64 := by omega
      subst e
      exact br_t ys_ge64 (hfa hq)
    | succ m ih =>
      intro s hs hts hq
      refine br_f (ys_lt64 (by omega)) ?_
      have next : xs_wh x t s = false → wY_isFacet_20 post (nI r) (nI t) rw cl has now pl ta si (m + 1) (nI (s + 1)) := fun z => ih (s + 1) (by omega) (by omega) (fun q q1 q2 => by
        by_cases e : q = s
        · rw [e]; exact z
        · exact hq q q1 (by omega))
      by_cases e : t &&& s = t
      · refine br_t ((ys_sub t ht s (by omega)).mpr e) (ys_ask hr (by omega) (by omega) h (fun hs0 => ?_) (fun hs1 => hno s hts (by omega) (by unfold xs_wh; simp [hs1, e])))
        intro y ey
        rw [ey, nI_1]
        exact next (by unfold xs_wh; simp [hs0])
      · refine br_f (fun z => e ((ys_sub t ht s (by omega)).mp z)) (fun y ey => ?_)
        rw [ey, nI_1]
        exact next (by unfold xs_wh; simp [e])
  intro y ey
  rw [ey, nI_1]
  exact ⟨63 - t + 1, l (63 - t) (t + 1) (by omega) (by omega) (fun q q1 q2 => by omega)⟩
theorem ys_facets {post : Int32 → Prop} {rw cl : Int32} {has now pl si : Nat → Int32} {ta : Nat → Int64} {r : Nat} {x : Int64} (hr : r < 4) (h : ys_H has r (mk_b x)) (hp : post (nI (cn_c (xs_fa x) 64))) : ∃ n, wY_facets_14 post (nI r) rw cl has now pl ta si n 0 1 := by
  have l : ∀ m s, s + m = 64 → 1 ≤ s → wY_facets_14 post (nI r) rw cl has now pl ta si (m + 1) (nI (cn_c (xs_fa x) s)) (nI s) := by
    intro m
    induction m with
    | zero =>
      intro s hs _
      have e : s = 64 := by omega
      subst e
      exact br_t ys_ge64 hp
    | succ m ih =>
      intro s hs h1
      have hn := ih (s + 1) (by omega) (by omega)
      rw [cn_s] at hn
      refine br_f (ys_lt64 (by omega)) (ys_isFacet hr h1 (by omega) h (fun hb => ?_) (fun hb => ?_))
      · refine br_f (by decide) (fun y ey z ez => ?_)
        rw [hb] at hn
        rw [ey, ez, nI_1, nI_1]
        exact hn
      · refine br_t rfl (fun y ey => ?_)
        rw [hb] at hn
        rw [ey, nI_1]
        exact hn
  have := l 63 1 rfl (by omega)
  rw [cn_s, show xs_fa x 0 = false by unfold xs_fa; simp] at this
  exact ⟨64, this⟩
theorem i_vc_facets {k : Nat} {u : SX} {v : SY} (I : i_Rel k u v) (hk : k + 5 ≤ 2560) (v1 : Int32) : wpX_facets (fun r => wpY_facets (fun r' => r' = r ∧ i_Rel (k + 5) u v) v v1) u v1 := by
  obtain ⟨lev, held, place, cells⟩ := u
  obtain ⟨rw, cl, has, now, pl, ta, si⟩ := v
  have I : re_R lev held place has := I
  unfold wpX_facets wpY_facets
  dsimp only
  rcases rg_cases v1 with hb | ⟨r, hr, rfl⟩
  · exact xs_reg_bad hb (br_t rfl (ys_reg_bad hb (br_t rfl ⟨rfl, I⟩)))
  have J := I.2.2 r hr
  refine xs_reg hr (br_f (by decide) ⟨vp_in_nI hr (by decide), ?_⟩)
  rw [xs_cl (by omega)]
  refine xs_facetsOf (fun m hm => xs_size ?_)
  rw [cn_congr hm]
  exact ys_reg hr (br_f (by decide) (ys_facets hr J.2 ⟨rfl, I⟩))
theorem fa_both {lev : Int32} {held : Nat → Int64} {place cells : Nat → Int32} {rw cl : Int32} {has now pl si : Nat → Int32} {ta : Nat → Int64} {r : Nat} {x w : Int64} (kk : Int32) (hr : r < 4) (h : ys_H has r (mk_b x)) (hw : ∀ t, t < 64 → mk_b w t = xs_fa x t) : ∀ m s c, s + m = 64 → 1 ≤ s → ∃ ans : Int32, (∀ post : Int32 → Prop, post ans → wX_facet_25 post kk w lev held place cells (m + 1) (nI c) (nI s)) ∧ (∀ post : Int32 → Prop, post ans → wY_facet_15 post (nI r) kk rw cl has now pl ta si (m + 1) (nI c) (nI s)) := by
  intro m
  induction m with
  | zero =>
    intro s c hs _
    have e : s = 64 := by omega
    subst e
    exact ⟨-2, fun post hp => br_t xs_gt64 hp, fun post hp => br_t ys_ge64 hp⟩
  | succ m ih =>
    intro s c hs h1
    have hs64 : s < 64 := by omega
    have e := hw s hs64
    have no : ∀ {A : Prop}, xs_fa x s = true → xs_fa x s = false → A := fun a b => by rw [a] at b; exact absurd b (by decide)
    cases hf : xs_fa x s
    · obtain ⟨ans, hX, hY⟩ := ih (s + 1) c (by omega) (by omega)
      refine ⟨ans, fun post hp => br_f (xs_gt hs64) (xs_isIn hs64 (fun hb => ?_) (fun hb => ?_)), fun post hp => br_f (ys_lt64 hs64) (ys_isFacet hr h1 hs64 h (fun hb => no hb hf) (fun hb => ?_))⟩
      · rw [e] at hb; exact no hb hf
      · refine br_t rfl (fun y ey => ?_)
        rw [ey, nI_1]; exact hX post hp
      · refine br_t rfl (fun y ey => ?_)
        rw [ey, nI_1]; exact hY post hp
    · by_cases hc : nI c = kk
      · refine ⟨nI s, fun post hp => br_f (xs_gt hs64) (xs_isIn hs64 (fun hb => ?_) (fun hb => ?_)), fun post hp => br_f (ys_lt64 hs64) (ys_isFacet hr h1 hs64 h (fun hb => ?_) (fun hb => no hf hb))⟩
        · exact br_f (by decide) (br_t hc hp)
        · rw [e] at hb; exact no hf hb
        · exact br_f (by decide) (br_t hc hp)
      · obtain ⟨ans, hX, hY⟩ := ih (s + 1) (c + 1) (by omega) (by omega)
        refine ⟨ans, fun post hp => br_f (xs_gt hs64) (xs_isIn hs64 (fun hb => ?_) (fun hb => ?_)), fun post hp => br_f (ys_lt64 hs64) (ys_isFacet hr h1 hs64 h (fun hb => ?_) (fun hb => no hf hb))⟩
        · refine br_f (by decide) (br_f hc (fun y ey z ez => ?_))
          rw [ey, ez, nI_1, nI_1]; exact hX post hp
        · rw [e] at hb; exact no hf hb
        · refine br_f (by decide) (br_f hc (fun y ey z ez => ?_))
          rw [ey, ez, nI_1, nI_1]; exact hY post hp
theorem i_vc_facet {k : Nat} {u : SX} {v : SY} (I : i_Rel k u v) (hk : k + 5 ≤ 2560) (v1 : Int32) (v2 : Int32) : wpX_facet (fun r => wpY_facet (fun r' => r' = r ∧ i_Rel (k + 5) u v) v v1 v2) u v1 v2 := by
  obtain ⟨lev, held, place, cells⟩ := u
  obtain ⟨rw, cl, has, now, pl, ta, si⟩ := v
  have I : re_R lev held place has := I
  unfold wpX_facet wpY_facet
  dsimp only
  rcases rg_cases v1 with hb | ⟨r, hr, rfl⟩
  · exact xs_reg_bad hb (br_t rfl (ys_reg_bad hb (br_t rfl ⟨rfl, I⟩)))
  have J := I.2.2 r hr
  refine xs_reg hr (br_f (by decide) ⟨vp_in_nI hr (by decide), ?_⟩)
  rw [xs_cl (by omega)]
  refine xs_facetsOf (fun m hm => ?_)
  obtain ⟨ans, hX, hY⟩ := fa_both (lev := lev) (held := held) (place := place) (cells := cells) (rw := rw) (cl := cl) (now := now) (pl := pl) (ta := ta) (si := si) v2 hr J.2 hm 63 1 0 rfl (by omega)
  exact ⟨64, hX _ (ys_reg hr (br_f (by decide) ⟨64, hY _ ⟨rfl, I⟩⟩))⟩
end
section
/-! pieces -/
def pi_s (b : Nat → Bool) (m s : Nat) : Nat := if b s = true ∧ ¬ s &&& m = 0 then m ||| s else m
/-- after the sets 1 to n -/
def pi_p (b : Nat → Bool) (m : Nat) : Nat → Nat
  | 0 => m
  | n + 1 => pi_s b (pi_p b m n) (n + 1)
def pi_n (b : Nat → Bool) (m : Nat) : Nat → Nat
  | 0 => m
  | n + 1 => pi_p b (pi_n b m n) 63
theorem pi_p_lt {b : Nat → Bool} {m : Nat} (hm : m < 64) : ∀ n, n < 64 → pi_p b m n < 64 := by
  intro n
  induction n with
  | zero => intro _; exact hm
  | succ n ih =>
    intro hn
    have := ih (by omega)
    show pi_s b (pi_p b m n) (n + 1) < 64
    unfold pi_s
    split
    · exact st_or_lt this hn
    · exact this
theorem pi_n_lt {b : Nat → Bool} {m : Nat} (hm : m < 64) : ∀ n, pi_n b m n < 64 := by
  intro n
  induction n with
  | zero => exact hm
  | succ n ih => exact pi_p_lt ih 63 (by omega)
theorem xs_around {post : Int32 → Prop} {x : Int64} {m : Nat} (hm : m < 64) (hp : post (nI (pi_n (mk_b x) m 6))) : wpX_pieceAround post x (nI m) := by
  have l : ∀ d i, i + d = 6 → wX_pieceAround_5 post x (d + 1) (nI (pi_n (mk_b x) m i)) (nI i) := by
    intro d
    induction d with
    | zero =>
      intro i hi
      have e : i = 6 := by omega
      subst e
      exact br_t ys_ge6 hp
    | succ d ih =>
      intro i hi
      have hj := ih (i + 1) (by omega)
      have hm2 := pi_n_lt (b := mk_b x) hm i
      refine br_f (ys_lt6 (by omega)) ?_
      have l2 : ∀ f s, s + 1 + f = 64 → wX_pieceAround_15 post (wX_pieceAround_5 post x (d + 1)) x (nI i) (f + 1) (nI (pi_p (mk_b x) (pi_n (mk_b x) m i) s)) (nI (s + 1)) := by
        intro f
        induction f with
        | zero =>
          intro s hs
          have e : s = 63 := by omega
          subst e
          refine br_t xs_gt64 (fun y ey => ?_)
          rw [ey, nI_1]
          exact hj
        | succ f ih2 =>
          intro s hs
          have hn := ih2 (s + 1) (by omega)
          have hq := pi_p_lt (b := mk_b x) hm2 s (by omega)
          have hl := st_and_le (s + 1) (pi_p (mk_b x) (pi_n (mk_b x) m i) s)
          have stay : pi_p (mk_b x) (pi_n (mk_b x) m i) (s + 1) = pi_p (mk_b x) (pi_n (mk_b x) m i) s → wX_pieceAround_15 post (wX_pieceAround_5 post x (d + 1)) x (nI i) (f + 1) (nI (pi_p (mk_b x) (pi_n (mk_b x) m i) s)) (nI (s + 1 + 1)) := fun z => by rw [z] at hn; exact hn
          refine br_f (xs_gt (by omega)) (xs_isIn (by omega) (fun hb => ?_) (fun hb => ?_))
          · refine br_f (by decide) ?_
            rw [st_and]
            by_cases e : s + 1 &&& pi_p (mk_b x) (pi_n (mk_b x) m i) s = 0
            · refine br_t (by rw [e]; rfl) (fun y ey => ?_)
              rw [ey, nI_1]
              exact stay (if_neg (fun z => z.2 e))
            · refine br_f (fun z => e ((nI_eq (b := 0) (by omega) (by decide)).mp z)) (fun y ey z ez => ?_)
              rw [ey, ez, nI_1, st_or]
              rw [show pi_p (mk_b x) (pi_n (mk_b x) m i) (s + 1) = pi_p (mk_b x) (pi_n (mk_b x) m i) s ||| (s + 1) from if_pos ⟨hb, e⟩] at hn
              exact hn
          · refine br_t rfl (fun y ey => ?_)
            rw [ey, nI_1]
            exact stay (if_neg (fun z => by rw [hb] at z; exact absurd z.1 (by decide)))
      exact ⟨64, l2 63 0 rfl⟩
  exact ⟨7, l 6 0 rfl⟩
theorem ys_reach {post : Int32 → Prop} {rw cl : Int32} {has now pl si : Nat → Int32} {ta : Nat → Int64} {r : Nat} {b : Nat → Bool} {m : Nat} (hr : r < 4) (h : ys_H has r b) (hm : m < 64) (hp : post (nI (pi_n b m 6))) : wpY_reach post (rw, cl, has, now, pl, ta, si) (nI r) (nI m) := by
  have l : ∀ d i, i + d = 6 → wY_reach_5 post (nI r) rw cl has now pl ta si (d + 1) (nI (pi_n b m i)) (nI i) := by
    intro d
    induction d with
    | zero =>
      intro i hi
      have e : i = 6 := by omega
      subst e
      exact br_t ys_ge6 hp
    | succ d ih =>
      intro i hi
      have hj := ih (i + 1) (by omega)
      have hm2 := pi_n_lt (b := b) hm i
      refine br_f (ys_lt6 (by omega)) ?_
      have l2 : ∀ f s, s + 1 + f = 64 → wY_reach_15 post (wY_reach_5 post (nI r) rw cl has now pl ta si (d + 1)) (nI r) (nI i) rw cl has now pl ta si (f + 1) (nI (pi_p b (pi_n b m i) s)) (nI (s + 1)) := by
        intro f
        induction f with
        | zero =>
          intro s hs
          have e : s = 63 := by omega
          subst e
          refine br_t ys_ge64 (fun y ey => ?_)
          rw [ey, nI_1]
          exact hj
        | succ f ih2 =>
          intro s hs
          have hn := ih2 (s + 1) (by omega)
          have hq := pi_p_lt (b := b) hm2 s (by omega)
          have hl := st_and_le (s + 1) (pi_p b (pi_n b m i) s)
          have stay : pi_p b (pi_n b m i) (s + 1) = pi_p b (pi_n b m i) s → wY_reach_15 post (wY_reach_5 post (nI r) rw cl has now pl ta si (d + 1)) (nI r) (nI i) rw cl has now pl ta si (f + 1) (nI (pi_p b (pi_n b m i) s)) (nI (s + 1 + 1)) := fun z => by rw [z] at hn; exact hn
          refine br_f (ys_lt64 (by omega)) (ys_ask hr (by omega) (by omega) h (fun hb => ?_) (fun hb => ?_))
          · intro y ey
            rw [ey, nI_1]
            exact stay (if_neg (fun z => by rw [hb] at z; exact absurd z.1 (by decide)))
          · rw [st_and]
            by_cases e : s + 1 &&& pi_p b (pi_n b m i) s = 0
            · refine br_t (by rw [e]; rfl) (fun y ey => ?_)
              rw [ey, nI_1]
              exact stay (if_neg (fun z => z.2 e))
            · refine br_f (fun z => e ((nI_eq (b := 0) (by omega) (by decide)).mp z)) (fun y ey z ez => ?_)
              rw [ey, ez, nI_1, st_or]
              rw [show pi_p b (pi_n b m i) (s + 1) = pi_p b (pi_n b m i) s ||| (s + 1) from if_pos ⟨hb, e⟩] at hn
              exact hn
      exact ⟨64, l2 63 0 rfl⟩
  exact ⟨7, l 6 0 rfl⟩
theorem pi_v : ∀ v, v < 6 → (1 : Int32) <<< (nI v &&& 31) = nI (2 ^ v) ∧ 2 ^ v < 64 ∧ 1 ≤ 2 ^ v := by decide +kernel
theorem pi_x : ∀ m, m < 64 → ∀ v, v < 6 → ((nI m &&& nI (2 ^ v)) = 0 ↔ m.testBit v = false) := by decide +kernel
theorem pi_y : ∀ m, m < 64 → ∀ v, v < 6 → (((nI m >>> (nI v &&& 31)) &&& 1) = 1 ↔ m.testBit v = true) := by decide +kernel
theorem pi_not : ∀ l, l < 64 → ∀ p, p < 64 → nI l &&& (nI p ^^^ (-1)) = nI (l &&& (63 ^^^ p)) := by decide +kernel
theorem pi_nb : ∀ p, p < 64 → ∀ i, i < 6 → (63 ^^^ p).testBit i = !p.testBit i := by decide +kernel
theorem pi_sb : ∀ v, v < 6 → ∀ i, i < 6 → (2 ^ v).testBit i = decide (i = v) := by decide +kernel
theorem pi_both {lev : Int32} {held : Nat → Int64} {place cells : Nat → Int32} {rw cl : Int32} {has now pl si : Nat → Int32} {ta : Nat → Int64} {r : Nat} (hr : r < 4) (h : ys_H has r (mk_b (held r))) : ∀ d v c m l, v + d = 6 → m < 64 → l < 64 → (∀ i, i < 6 → l.testBit i = (mk_b (held r) (2 ^ i) && !m.testBit i)) → ∃ ans : Int32, (∀ post : Int32 → Prop, post ans → wX_pieces_16 post (nI r) lev held place cells (d + 1) (nI c) (nI m) (nI v)) ∧ (∀ post : Int32 → Prop, post ans → wY_pieces_53 post (nI r) rw cl has now pl ta si (d + 1) (nI l) (nI c) (nI v)) := by
  intro d
  induction d with
  | zero =>
    intro v c m l hv _ _ _
    have e : v = 6 := by omega
    subst e
    exact ⟨nI c, fun post hp => br_t ys_ge6 hp, fun post hp => br_t ys_ge6 hp⟩
  | succ d ih =>
    intro v c m l hv hm hl hI
    have hv6 : v < 6 := by omega
    obtain ⟨e1, e2, e3⟩ := pi_v v hv6
    have q := hI v hv6
    cases hb : mk_b (held r) (2 ^ v)
    · obtain ⟨ans, hX, hY⟩ := ih (v + 1) c m l (by omega) hm hl hI
      refine ⟨ans, fun post hp => br_f (ys_lt6 hv6) (fun y ey => ⟨vp_in_nI hr (by decide), ?_⟩), fun post hp => br_f (ys_lt6 hv6) (br_f (fun z => ?_) (fun y ey => ?_))⟩
      · rw [ey, e1, xs_cl (by omega)]
        refine xs_isIn e2 (fun z => by rw [hb] at z; exact absurd z (by decide)) (fun _ => br_t rfl (fun y ey => ?_))
        rw [ey, nI_1]; exact hX post hp
      · rw [(pi_y l hl v hv6).mp z, hb] at q
        exact absurd q (by simp)
      · rw [ey, nI_1]; exact hY post hp
    · cases ht : m.testBit v
      · -- a new piece
        have hp6 := pi_n_lt (b := mk_b (held r)) e2 6
        obtain ⟨ans, hX, hY⟩ := ih (v + 1) (c + 1) (m ||| pi_n (mk_b (held r)) (2 ^ v) 6) (l &&& (63 ^^^ pi_n (mk_b (held r)) (2 ^ v) 6)) (by omega) (st_or_lt hm hp6) (by have := st_and_le l (63 ^^^ pi_n (mk_b (held r)) (2 ^ v) 6); omega) (fun i hi => by
          rw [Nat.testBit_and, Nat.testBit_or, pi_nb _ hp6 i hi, hI i hi]
          cases mk_b (held r) (2 ^ i) <;> cases m.testBit i <;> cases (pi_n (mk_b (held r)) (2 ^ v) 6).testBit i <;> rfl)
        refine ⟨ans, fun post hp => br_f (ys_lt6 hv6) (fun y ey => ⟨vp_in_nI hr (by decide), ?_⟩), fun post hp => br_f (ys_lt6 hv6) (br_t ?_ ?_)⟩
        · rw [ey, e1, xs_cl (by omega)]
          refine xs_isIn e2 (fun _ => br_f (by decide) (br_t ((pi_x m hm v hv6).mpr ht) (fun y ey => ⟨vp_in_nI hr (by decide), ?_⟩))) (fun z => by rw [hb] at z; exact absurd z (by decide))
          refine xs_around e2 (fun y2 ey2 y3 ey3 => ?_)
          rw [ey, ey2, ey3, nI_1, nI_1, st_or]
          exact hX post hp
        · rw [hb, ht] at q
          exact (pi_y l hl v hv6).mpr q
        · rw [e1]
          refine ys_reach hr h e2 (fun y ey z ez w ew => ?_)
          rw [ey, ez, ew, nI_1, nI_1, pi_not l hl _ hp6]
          exact hY post hp
      · obtain ⟨ans, hX, hY⟩ := ih (v + 1) c m l (by omega) hm hl hI
        refine ⟨ans, fun post hp => br_f (ys_lt6 hv6) (fun y ey => ⟨vp_in_nI hr (by decide), ?_⟩), fun post hp => br_f (ys_lt6 hv6) (br_f (fun z => ?_) (fun y ey => ?_))⟩
        · rw [ey, e1, xs_cl (by omega)]
          refine xs_isIn e2 (fun _ => br_f (by decide) (br_f (fun z => ?_) (fun y ey => ?_))) (fun z => by rw [hb] at z; exact absurd z (by decide))
          · rw [(pi_x m hm v hv6).mp z] at ht; exact absurd ht (by decide)
          · rw [ey, nI_1]; exact hX post hp
        · rw [(pi_y l hl v hv6).mp z, hb, ht] at q
          exact absurd q (by decide)
        · rw [ey, nI_1]; exact hY post hp
theorem ys_left {post : Int32 → Prop} {rw cl : Int32} {has now pl si : Nat → Int32} {ta : Nat → Int64} {r : Nat} {b : Nat → Bool} (hr : r < 4) (h : ys_H has r b) (hp : ∀ l, l < 64 → (∀ i, i < 6 → l.testBit i = b (2 ^ i)) → ∃ n, wY_pieces_53 post (nI r) rw cl has now pl ta si n (nI l) 0 0) : ∃ n, wY_pieces_14 post (nI r) rw cl has now pl ta si n 0 0 := by
  have L : ∀ d v l, v + d = 6 → l < 64 → (∀ i, i < 6 → l.testBit i = (decide (i < v) && b (2 ^ i))) → wY_pieces_14 post (nI r) rw cl has now pl ta si (d + 1) (nI l) (nI v) := by
    intro d
    induction d with
    | zero =>
      intro v l hv hl hI
      have e : v = 6 := by omega
      subst e
      exact br_t ys_ge6 (hp l hl (fun i hi => by rw [hI i hi, decide_eq_true hi]; rfl))
    | succ d ih =>
      intro v l hv hl hI
      have hv6 : v < 6 := by omega
      obtain ⟨e1, e2, e3⟩ := pi_v v hv6
      refine br_f (ys_lt6 hv6) ?_
      rw [e1]
      refine ys_ask hr e3 e2 h (fun hb => ?_) (fun hb => ?_)
      · intro y ey
        rw [ey, nI_1]
        refine ih (v + 1) l (by omega) hl (fun i hi => ?_)
        rw [hI i hi]
        by_cases e : i = v
        · subst e; rw [hb, Bool.and_false, Bool.and_false]
        · by_cases e2 : i < v
          · rw [decide_eq_true e2, decide_eq_true (show i < v + 1 by omega)]
          · rw [decide_eq_false e2, decide_eq_false (show ¬ i < v + 1 by omega)]
      · intro y ey z ez
        rw [ey, ez, nI_1, st_or]
        refine ih (v + 1) _ (by omega) (st_or_lt hl e2) (fun i hi => ?_)
        rw [Nat.testBit_or, hI i hi, pi_sb v hv6 i hi]
        by_cases e : i = v
        · subst e; rw [hb, decide_eq_true (show i < i + 1 by omega)]; simp
        · by_cases e2 : i < v
          · rw [decide_eq_true e2, decide_eq_true (show i < v + 1 by omega), decide_eq_false e]; simp
          · rw [decide_eq_false e2, decide_eq_false (show ¬ i < v + 1 by omega), decide_eq_false e]; simp
  exact ⟨7, L 6 0 0 rfl (by omega) (fun i hi => by rw [Nat.zero_testBit, decide_eq_false (show ¬ i < 0 by omega)]; rfl)⟩
theorem i_vc_pieces {k : Nat} {u : SX} {v : SY} (I : i_Rel k u v) (hk : k + 5 ≤ 2560) (v1 : Int32) : wpX_pieces (fun r => wpY_pieces (fun r' => r' = r ∧ i_Rel (k + 5) u v) v v1) u v1 := by
  obtain ⟨lev, held, place, cells⟩ := u
  obtain ⟨rw, cl, has, now, pl, ta, si⟩ := v
  have I : re_R lev held place has := I
  unfold wpX_pieces wpY_pieces
  dsimp only
  rcases rg_cases v1 with hb | ⟨r, hr, rfl⟩
  · exact xs_reg_bad hb (br_t rfl (ys_reg_bad hb (br_t rfl ⟨rfl, I⟩)))
  have J := I.2.2 r hr
  have key : ∃ ans : Int32, (∀ post : Int32 → Prop, post ans → ∃ n, wX_pieces_16 post (nI r) lev held place cells n 0 0 0) ∧ (∀ post : Int32 → Prop, post ans → ∃ n, wY_pieces_14 post (nI r) rw cl has now pl ta si n 0 0) := by
    have hex : ∃ l, l < 64 ∧ ∀ i, i < 6 → l.testBit i = mk_b (held r) (2 ^ i) := by
      have := ys_left (post := fun _ => True) (rw := rw) (cl := cl) (now := now) (pl := pl) (ta := ta) (si := si) hr J.2
      have L : ∀ v, v ≤ 6 → ∃ l, l < 64 ∧ ∀ i, i < 6 → l.testBit i = (decide (i < v) && mk_b (held r) (2 ^ i)) := by
        intro v
        induction v with
        | zero => intro _; exact ⟨0, by omega, fun i hi => by rw [Nat.zero_testBit, decide_eq_false (show ¬ i < 0 by omega)]; rfl⟩
        | succ v ih =>
          intro hv
          obtain ⟨l, hl, hI⟩ := ih (by omega)
          obtain ⟨e1, e2, e3⟩ := pi_v v (by omega)
          cases hb : mk_b (held r) (2 ^ v)
          · refine ⟨l, hl, fun i hi => ?_⟩
            rw [hI i hi]
            by_cases e : i = v
            · subst e; rw [hb, Bool.and_false, Bool.and_false]
            · by_cases e2 : i < v
              · rw [decide_eq_true e2, decide_eq_true (show i < v + 1 by omega)]
              · rw [decide_eq_false e2, decide_eq_false (show ¬ i < v + 1 by omega)]
          · refine ⟨l ||| 2 ^ v, st_or_lt hl e2, fun i hi => ?_⟩
            rw [Nat.testBit_or, hI i hi, pi_sb v (by omega) i hi]
            by_cases e : i = v
            · subst e; rw [hb, decide_eq_true (show i < i + 1 by omega)]; simp
            · by_cases e2 : i < v
              · rw [decide_eq_true e2, decide_eq_true (show i < v + 1 by omega), decide_eq_false e]; simp
              · rw [decide_eq_false e2, decide_eq_false (show ¬ i < v + 1 by omega), decide_eq_false e]; simp
      obtain ⟨l, hl, hI⟩ := L 6 (Nat.le_refl 6)
      exact ⟨l, hl, fun i hi => by rw [hI i hi, decide_eq_true hi]; rfl⟩
    obtain ⟨l, hl, hI⟩ := hex
    obtain ⟨ans, hX, hY⟩ := pi_both (lev := lev) (held := held) (place := place) (cells := cells) (rw := rw) (cl := cl) (now := now) (pl := pl) (ta := ta) (si := si) hr J.2 6 0 0 0 l rfl (by omega) hl (fun i hi => by rw [hI i hi, Nat.zero_testBit]; simp)
    refine ⟨ans, fun post hp => ⟨7, hX post hp⟩, fun post hp => ys_left hr J.2 (fun l' hl' hI' => ?_)⟩
    have e : l' = l := by
      apply Nat.eq_of_testBit_eq
      intro i
      by_cases hi : i < 6
      · rw [hI i hi, hI' i hi]
      · have p : 2 ^ 6 ≤ 2 ^ i := Nat.pow_le_pow_right (by decide) (by omega)
        rw [Nat.testBit_lt_two_pow (show l' < 2 ^ i by omega), Nat.testBit_lt_two_pow (show l < 2 ^ i by omega)]
    rw [e]
    exact ⟨7, hY post hp⟩
  obtain ⟨ans, hX, hY⟩ := key
  exact xs_reg hr (br_f (by decide) (hX _ (ys_reg hr (br_f (by decide) (hY _ ⟨rfl, I⟩)))))
end
section
/-! X writes the edges of its sets -/
def xt_sg (n : Nat) : Int32 := if n % 2 = 0 then 1 else -1
theorem xt_sgT : ∀ n, n < 7 → (xt_sg n).toInt = dt_sg n := by decide +kernel
theorem xt_sgS : ∀ n, n < 7 → - xt_sg n = xt_sg (n + 1) := by decide +kernel
/-- s is t without one of its vertices below v -/
def xt_g (t v s : Nat) : Prop := ∃ u, u < v ∧ t.testBit u = true ∧ s = t ^^^ 2 ^ u
theorem xt_g0 {t s : Nat} : ¬ xt_g t 0 s := fun ⟨u, h, _⟩ => by omega
theorem xt_gs {t v s : Nat} : xt_g t (v + 1) s ↔ xt_g t v s ∨ (t.testBit v = true ∧ s = t ^^^ 2 ^ v) := by
  constructor
  · rintro ⟨u, h1, h2, h3⟩
    by_cases e : u = v
    · subst e; exact Or.inr ⟨h2, h3⟩
    · exact Or.inl ⟨u, by omega, h2, h3⟩
  · rintro (⟨u, h1, h2, h3⟩ | ⟨h2, h3⟩)
    · exact ⟨u, by omega, h2, h3⟩
    · exact ⟨v, by omega, h2, h3⟩
theorem xt_g6a : ∀ t, t < 64 → ∀ u, u < 6 → t.testBit u = true → (t ^^^ 2 ^ u) &&& t = t ^^^ 2 ^ u ∧ ed_pc t = ed_pc (t ^^^ 2 ^ u) + 1 ∧ t ^^^ 2 ^ u < 64 ∧ ed_en (t ^^^ 2 ^ u) t = dt_sg (ed_pc (t % 2 ^ u)) := by decide +kernel
theorem xt_g6b : ∀ t, t < 64 → ∀ s, s < 64 → s &&& t = s → ed_pc t = ed_pc s + 1 → (List.range 6).any (fun u => t.testBit u && decide (s = t ^^^ 2 ^ u)) = true := by decide +kernel
theorem xt_g6 {t s : Nat} (ht : t < 64) (hs : s < 64) : xt_g t 6 s ↔ s &&& t = s ∧ ed_pc t = ed_pc s + 1 := by
  constructor
  · rintro ⟨u, h1, h2, h3⟩
    have := xt_g6a t ht u h1 h2
    rw [h3]
    exact ⟨this.1, this.2.1⟩
  · rintro ⟨h1, h2⟩
    have := xt_g6b t ht s hs h1 h2
    rw [List.any_eq_true] at this
    obtain ⟨u, hu, hh⟩ := this
    rw [Bool.and_eq_true, decide_eq_true_iff] at hh
    exact ⟨u, List.mem_range.mp hu, hh.1, hh.2⟩
theorem xt_bit : ∀ v, v < 6 → ∀ t, t < 64 → (2 ^ v &&& t = 2 ^ v ↔ t.testBit v = true) := by decide +kernel
theorem xt_pcb : ∀ v, v < 6 → ∀ t, t < 64 → ed_pc (t % 2 ^ (v + 1)) = ed_pc (t % 2 ^ v) + (if t.testBit v = true then 1 else 0) := by decide +kernel
theorem xt_ix (a b : Nat) : nI a * 20 + nI b = nI (20 * a + b) := by
  show nI a * nI 20 + nI b = _
  rw [show nI a * nI 20 = nI (a * 20) from (Int32.ofNat_mul a 20).symm, nI_add, Nat.mul_comm]
theorem xt_vi {a b : Nat} (ha : a < 20) (hb : b < 20) : vp_in (nI (20 * a + b)) 400 := vp_in_nI (by omega) (by decide)
theorem xt_cl {a b : Nat} (ha : a < 20) (hb : b < 20) : (nI (20 * a + b)).toNatClampNeg = 20 * a + b := nI_clamp (by omega)
def xt_G (S : Nat → Bool) (t v s : Nat) (e : Int) : Prop := (S s = true ∧ xt_g t v s ∧ e = ed_en s t) ∨ (¬ (S s = true ∧ xt_g t v s) ∧ e = 0)
theorem xt_edge {post : SX → Prop} {lev : Int32} {held : Nat → Int64} {place cells : Nat → Int32} {x : Int64} {k t : Nat} (hpl : ∀ s, 1 ≤ s → s < 64 → place s = nI (st_pl s)) (hk : 1 ≤ k) (ht : t < 64) (htk : ed_pc t = k + 1) (h0 : ∀ i, i < 20 → (cells (20 * i + st_pl t)).toInt = 0) (hp : ∀ cells', (∀ i j, i < 20 → j < 20 → j ≠ st_pl t → cells' (20 * i + j) = cells (20 * i + j)) → (∀ i, i < 20 → xt_G (mk_b x) t 6 (st_us k i) (cells' (20 * i + st_pl t)).toInt) → post (lev, held, place, cells')) : wpX_writeEdge post (lev, held, place, cells) x (nI t) := by
  have t1 : 1 ≤ t := by
    apply Classical.byContradiction
    intro z
    have e : t = 0 := by omega
    rw [e] at htk
    have : ed_pc 0 = 0 := rfl
    omega
  have ht20 := st_pl_lt t ht
  have l : ∀ d v c, v + d = 6 → (∀ i j, i < 20 → j < 20 → j ≠ st_pl t → c (20 * i + j) = cells (20 * i + j)) → (∀ i, i < 20 → xt_G (mk_b x) t v (st_us k i) (c (20 * i + st_pl t)).toInt) → wX_writeEdge_6 post x (nI t) lev (d + 1) (xt_sg (ed_pc (t % 2 ^ v))) (nI v) held place c := by
    intro d
    induction d with
    | zero =>
      intro v c hv h1 h2
      have e : v = 6 := by omega
      subst e
      exact br_t ys_ge6 (hp c h1 h2)
    | succ d ih =>
      intro v c hv h1 h2
      have hv6 : v < 6 := by omega
      obtain ⟨e1, e2, e3⟩ := pi_v v hv6
      have hpcb := xt_pcb v hv6 t ht
      have hple := ed_pc_le (t % 2 ^ v)
      refine br_f (ys_lt6 hv6) (fun y ey => ?_)
      rw [ey, e1]
      refine xs_isPart e2 (fun hq => ?_) (fun hq => ?_)
      · have hb := (xt_bit v hv6 t ht).mp hq
        obtain ⟨g1, g2, g3, g4⟩ := xt_g6a t ht v hv6 hb
        have p1 : 1 ≤ t ^^^ 2 ^ v := by
          apply Classical.byContradiction
          intro z
          have e : t ^^^ 2 ^ v = 0 := by omega
          rw [e, htk] at g2
          have : ed_pc 0 = 0 := rfl
          omega
        have us := st_us_pl p1 g3
        rw [show ed_pc (t ^^^ 2 ^ v) = k by omega] at us
        have pl20 := st_pl_lt (t ^^^ 2 ^ v) g3
        rw [hb] at hpcb
        have hsg : - xt_sg (ed_pc (t % 2 ^ v)) = xt_sg (ed_pc (t % 2 ^ (v + 1))) := by
          rw [hpcb, xt_sgS _ (by omega)]; rfl
        refine br_f (by decide) (fun y2 ey2 => ?_)
        rw [ey2, st_xor]
        refine xs_isIn g3 (fun hin => ?_) (fun hin => ?_)
        · refine br_f (by decide) ?_
          rw [xs_cl (show t ^^^ 2 ^ v < 1000 by omega), xs_cl (show t < 1000 by omega), hpl _ p1 g3, hpl _ t1 ht, xt_ix, xt_cl pl20 ht20]
          refine ⟨vp_in_nI g3 (by decide), vp_in_nI ht (by decide), xt_vi pl20 ht20, fun y3 ey3 y4 ey4 y5 ey5 => ?_⟩
          rw [ey3, ey4, ey5, nI_1, hsg]
          refine ih (v + 1) _ (by omega) (fun i j hi hj hne => ?_) (fun i hi => ?_)
          · rw [xs_un (by omega)]; exact h1 i j hi hj hne
          · by_cases e : i = st_pl (t ^^^ 2 ^ v)
            · subst e
              rw [xs_us, us]
              refine Or.inl ⟨hin, xt_gs.mpr (Or.inr ⟨hb, rfl⟩), ?_⟩
              rw [xt_sgT _ (by omega), g4]
            · rw [xs_un (by omega)]
              have hne : st_us k i ≠ t ^^^ 2 ^ v := fun z => by
                have := st_us_ok (k := k) (i := i) (by rw [z]; exact g3)
                rw [z] at this
                exact e this.2.2.symm
              rcases h2 i hi with ⟨a, b, c⟩ | ⟨a, c⟩
              · exact Or.inl ⟨a, xt_gs.mpr (Or.inl b), c⟩
              · refine Or.inr ⟨fun z => ?_, c⟩
                rcases xt_gs.mp z.2 with q | q
                · exact a ⟨z.1, q⟩
                · exact hne q.2
        · refine br_t rfl (fun y3 ey3 y4 ey4 => ?_)
          rw [ey3, ey4, nI_1, hsg]
          refine ih (v + 1) _ (by omega) h1 (fun i hi => ?_)
          rcases h2 i hi with ⟨a, b, c⟩ | ⟨a, c⟩
          · exact Or.inl ⟨a, xt_gs.mpr (Or.inl b), c⟩
          · refine Or.inr ⟨fun z => ?_, c⟩
            rcases xt_gs.mp z.2 with q | q
            · exact a ⟨z.1, q⟩
            · have := z.1
              rw [q.2, hin] at this
              exact absurd this (by decide)
      · have hb : ¬ t.testBit v = true := fun z => hq ((xt_bit v hv6 t ht).mpr z)
        rw [if_neg hb] at hpcb
        refine br_t rfl (fun y3 ey3 => ?_)
        rw [ey3, nI_1, show ed_pc (t % 2 ^ v) = ed_pc (t % 2 ^ (v + 1)) from hpcb.symm]
        refine ih (v + 1) _ (by omega) h1 (fun i hi => ?_)
        rcases h2 i hi with ⟨a, b, c⟩ | ⟨a, c⟩
        · exact Or.inl ⟨a, xt_gs.mpr (Or.inl b), c⟩
        · refine Or.inr ⟨fun z => ?_, c⟩
          rcases xt_gs.mp z.2 with q | q
          · exact a ⟨z.1, q⟩
          · exact hb q.1
  have := l 6 0 cells rfl (fun _ _ _ _ _ => rfl) (fun i hi => Or.inr ⟨fun z => xt_g0 z.2, h0 i hi⟩)
  rw [show t % 2 ^ 0 = 0 from Nat.mod_one t] at this
  exact ⟨7, this⟩
theorem xt_SD {S : Nat → Bool} {k s t : Nat} (hk : 1 ≤ k) (hs : s < 64) (ht : t < 64) (htk : ed_pc t = k + 1) (hS : S t = true) {e : Int} (h : xt_G S t 6 s e) : e = ed_S S k s t := by
  unfold ed_S ed_D
  rcases h with ⟨a, b, c⟩ | ⟨a, c⟩
  · rw [if_pos ⟨a, hS⟩, if_pos ⟨hs, ht, hk, htk⟩]; exact c
  · rw [c]
    by_cases z : S s = true ∧ S t = true
    · rw [if_pos z, if_pos ⟨hs, ht, hk, htk⟩]
      unfold ed_en
      rw [if_neg (fun y => a ⟨z.1, (xt_g6 ht hs).mpr y⟩)]
    · rw [if_neg z]
theorem xt_write {post : SX → Prop} {lev : Int32} {held : Nat → Int64} {place cells : Nat → Int32} {x : Int64} {k : Nat} (hpl : ∀ s, 1 ≤ s → s < 64 → place s = nI (st_pl s)) (hk : k ≤ 6) (hp : ∀ cells', tb_hX (mk_b x) k cells' → post (lev, held, place, cells')) : wpX_writeEdges post (lev, held, place, cells) x (nI k) := by
  have l2 : ∀ w : Int64, (∀ t, t < 64 → mk_b w t = xs_dg x (k + 1) t) → 1 ≤ k → ∀ d m c, m + d = 64 → 1 ≤ m → (∀ i j, i < 20 → j < 20 → (c (20 * i + j)).toInt = if st_us (k + 1) j < m then ed_S (mk_b x) k (st_us k i) (st_us (k + 1) j) else 0) → wX_writeEdges_41 post x w (d + 1) (nI m) lev held place c := by
    intro w hw hk1 d
    induction d with
    | zero =>
      intro m c hm _ h
      have e : m = 64 := by omega
      subst e
      refine br_t xs_gt64 (hp c (fun i j hi hj => ?_))
      rw [h i j hi hj]
      by_cases z : st_us (k + 1) j < 64
      · rw [if_pos z]
      · rw [if_neg z, ed_S_out (Or.inr (by omega))]
    | succ d ih =>
      intro m c hm h1 h
      have hm64 : m < 64 := by omega
      refine br_f (xs_gt hm64) (xs_isIn hm64 (fun hb => ?_) (fun hb => ?_))
      · rw [hw m hm64] at hb
        unfold xs_dg at hb
        rw [Bool.and_eq_true, Bool.and_eq_true, decide_eq_true_iff, decide_eq_true_iff] at hb
        obtain ⟨_, hS, hpc⟩ := hb
        have us := st_us_pl h1 hm64
        rw [hpc] at us
        have hm20 := st_pl_lt m hm64
        refine br_f (by decide) (xt_edge hpl hk1 hm64 hpc (fun i hi => ?_) (fun c' c1 c2 => ?_))
        · rw [h i _ hi hm20, us, if_neg (by omega)]
        · intro y ey
          rw [ey, nI_1]
          refine ih (m + 1) c' (by omega) (by omega) (fun i j hi hj => ?_)
          by_cases e : j = st_pl m
          · subst e
            rw [us, if_pos (by omega)]
            by_cases hs : st_us k i < 64
            · exact xt_SD hk1 hs hm64 hpc hS (c2 i hi)
            · rw [ed_S_out (Or.inl (by omega))]
              rcases c2 i hi with ⟨a, b, q⟩ | ⟨a, q⟩
              · exfalso
                have : mk_b x (st_us k i) = false := mk_big (by omega)
                rw [this] at a
                exact absurd a (by decide)
              · exact q
          · rw [c1 i j hi hj e, h i j hi hj]
            have hne : st_us (k + 1) j ≠ m := fun z => by
              have := st_us_ok (k := k + 1) (i := j) (by rw [z]; exact hm64)
              rw [z] at this
              exact e this.2.2.symm
            by_cases z : st_us (k + 1) j < m
            · rw [if_pos z, if_pos (by omega)]
            · rw [if_neg z, if_neg (by omega)]
      · refine br_t rfl (fun y ey => ?_)
        rw [ey, nI_1]
        refine ih (m + 1) c (by omega) (by omega) (fun i j hi hj => ?_)
        rw [h i j hi hj]
        by_cases e : st_us (k + 1) j = m
        · rw [if_neg (by omega), if_pos (by omega), e]
          have ok := st_us_ok (k := k + 1) (i := j) (by rw [e]; exact hm64)
          rw [e] at ok
          have : mk_b x m = false := by
            cases q : mk_b x m
            · rfl
            · rw [hw m hm64] at hb
              unfold xs_dg at hb
              rw [q, ok.2.1] at hb
              simp [h1] at hb
          exact (tb_S0 (Or.inr (Or.inr (Or.inr (Or.inr (Or.inr (Or.inr (Or.inr this)))))))).symm
        · by_cases z : st_us (k + 1) j < m
          · rw [if_pos z, if_pos (by omega)]
          · rw [if_neg z, if_neg (by omega)]
  have l1 : ∀ d i c, i + d = 400 → (∀ j, j < i → c j = 0) → wX_writeEdges_3 post x (nI k) lev (d + 1) (nI i) held place c := by
    intro d
    induction d with
    | zero =>
      intro i c hi h
      have e : i = 400 := by omega
      subst e
      refine br_t (nI_le (a := 400) (b := 400) (by omega) (by decide)) ?_
      have z : ∀ i j, i < 20 → j < 20 → (c (20 * i + j)).toInt = 0 := fun i j hi hj => by rw [h _ (by omega)]; rfl
      by_cases hk1 : 1 ≤ k
      · refine br_t (nI_le (a := 1) hk1 (by omega)) (xs_ofDegree (by omega) (fun w hw => ?_))
        refine ⟨64, l2 w hw hk1 63 1 c rfl (by omega) (fun i j hi hj => ?_)⟩
        rw [z i j hi hj]
        by_cases q : st_us (k + 1) j < 1
        · have := st_us_ok (k := k + 1) (i := j) (by omega)
          omega
        · rw [if_neg q]
      · refine br_f (nI_ge (b := 1) (by omega) (by decide)) (hp c (fun i j hi hj => ?_))
        rw [z i j hi hj]
        unfold ed_S ed_D
        rw [if_neg (show ¬ (st_us k i < 64 ∧ st_us (k + 1) j < 64 ∧ 1 ≤ k ∧ ed_pc (st_us (k + 1) j) = k + 1) by omega)]
        split <;> rfl
    | succ d ih =>
      intro i c hi h
      refine br_f (nI_ge (b := 400) (by omega) (by decide)) ⟨vp_in_nI (by omega) (by decide), fun y ey z ez => ?_⟩
      rw [ey, ez, nI_1, xs_cl (by omega)]
      refine ih (i + 1) _ (by omega) (fun j hj => ?_)
      by_cases e : j = i
      · subst e; rw [xs_us]
      · rw [xs_un e]; exact h j (by omega)
  exact ⟨401, l1 400 0 cells rfl (fun j hj => by omega)⟩
end
section
/-! X's elimination modulo a prime -/
theorem xm_lt {i : Nat} (h : i < 20) : ¬ (20 : Int32) ≤ nI i := nI_ge (b := 20) h (by decide)
theorem xm_ge : (20 : Int32) ≤ nI 20 := nI_le (a := 20) (b := 20) (by omega) (by decide)
theorem xm_row {post : Int32 → Prop} {lev : Int32} {held : Nat → Int64} {place cells : Nat → Int32} {f c : Nat} (hf : f ≤ 20) (hc : c < 20) (hp : ∀ r, f ≤ r → r ≤ 20 → (∀ i, f ≤ i → i < r → cells (20 * i + c) = 0) → (r < 20 → cells (20 * r + c) ≠ 0) → post (nI r)) : wpX_rowWithEntry post (lev, held, place, cells) (nI f) (nI c) := by
  have l : ∀ d r, r + d = 20 → f ≤ r → (∀ i, f ≤ i → i < r → cells (20 * i + c) = 0) → wX_rowWithEntry_2 post (nI c) lev held place cells (d + 1) (nI r) := by
    intro d
    induction d with
    | zero =>
      intro r hr h1 h2
      have e : r = 20 := by omega
      subst e
      exact br_t xm_ge (hp 20 h1 (Nat.le_refl 20) h2 (fun z => absurd z (by omega)))
    | succ d ih =>
      intro r hr h1 h2
      have hr20 : r < 20 := by omega
      refine br_f (xm_lt hr20) ?_
      rw [xt_ix, xt_cl hr20 hc]
      refine ⟨xt_vi hr20 hc, ?_⟩
      by_cases z : cells (20 * r + c) = 0
      · refine br_t z (fun y ey => ?_)
        rw [ey, nI_1]
        exact ih (r + 1) (by omega) (by omega) (fun i i1 i2 => by
          by_cases e : i = r
          · rw [e]; exact z
          · exact h2 i i1 (by omega))
      · exact br_f z (hp r h1 (by omega) h2 (fun _ => z))
  exact ⟨20 - f + 1, l (20 - f) f (by omega) (Nat.le_refl f) (fun i i1 i2 => by omega)⟩
theorem xm_swapR {post : SX → Prop} {lev : Int32} {held : Nat → Int64} {place cells : Nat → Int32} {a b : Nat} (ha : a < 20) (hb : b < 20) (hp : ∀ c', (∀ i j, i < 20 → j < 20 → c' (20 * i + j) = cells (20 * wi_sw a b i + j)) → post (lev, held, place, c')) : wpX_swapRows post (lev, held, place, cells) (nI a) (nI b) := by
  have l : ∀ d x c, x + d = 20 → (∀ i j, i < 20 → j < 20 → c (20 * i + j) = if j < x then cells (20 * wi_sw a b i + j) else cells (20 * i + j)) → wX_swapRows_2 post (nI a) (nI b) lev (d + 1) (nI x) held place c := by
    intro d
    induction d with
    | zero =>
      intro x c hx h
      have e : x = 20 := by omega
      subst e
      exact br_t xm_ge (hp c (fun i j hi hj => by rw [h i j hi hj, if_pos hj]))
    | succ d ih =>
      intro x c hx h
      have hx20 : x < 20 := by omega
      refine br_f (xm_lt hx20) ?_
      rw [xt_ix, xt_ix, xt_cl ha hx20, xt_cl hb hx20]
      refine ⟨xt_vi ha hx20, fun y ey => ⟨xt_vi hb hx20, xt_vi ha hx20, fun c1 e1 => ⟨xt_vi hb hx20, fun c2 e2 z ez => ?_⟩⟩⟩
      rw [ez, nI_1]
      refine ih (x + 1) c2 (by omega) (fun i j hi hj => ?_)
      rw [e2, e1, ey]
      by_cases ej : j = x
      · subst ej
        rw [if_pos (by omega)]
        by_cases ib : i = b
        · subst ib
          rw [xs_us, h a j ha hj, if_neg (by omega)]
          congr 1
          unfold wi_sw
          split <;> simp_all
        · rw [xs_un (by omega)]
          by_cases ia : i = a
          · subst ia
            rw [xs_us, h b j hb hj, if_neg (by omega)]
            congr 1
            unfold wi_sw
            simp
          · rw [xs_un (by omega), h i j hi hj, if_neg (by omega)]
            congr 1
            unfold wi_sw
            simp [ia, ib]
      · rw [xs_un (by omega), xs_un (by omega), h i j hi hj]
        by_cases q : j < x
        · rw [if_pos q, if_pos (by omega)]
        · rw [if_neg q, if_neg (by omega)]
  exact ⟨21, l 20 0 cells rfl (fun i j _ _ => by rw [if_neg (by omega)])⟩
theorem xm_swapC {post : SX → Prop} {lev : Int32} {held : Nat → Int64} {place cells : Nat → Int32} {a b : Nat} (ha : a < 20) (hb : b < 20) (hp : ∀ c', (∀ i j, i < 20 → j < 20 → c' (20 * i + j) = cells (20 * i + wi_sw a b j)) → post (lev, held, place, c')) : wpX_swapColumns post (lev, held, place, cells) (nI a) (nI b) := by
  have l : ∀ d x c, x + d = 20 → (∀ i j, i < 20 → j < 20 → c (20 * i + j) = if i < x then cells (20 * i + wi_sw a b j) else cells (20 * i + j)) → wX_swapColumns_2 post (nI a) (nI b) lev (d + 1) (nI x) held place c := by
    intro d
    induction d with
    | zero =>
      intro x c hx h
      have e : x = 20 := by omega
      subst e
      exact br_t xm_ge (hp c (fun i j hi hj => by rw [h i j hi hj, if_pos hi]))
    | succ d ih =>
      intro x c hx h
      have hx20 : x < 20 := by omega
      refine br_f (xm_lt hx20) ?_
      rw [xt_ix, xt_ix, xt_cl hx20 ha, xt_cl hx20 hb]
      refine ⟨xt_vi hx20 ha, fun y ey => ⟨xt_vi hx20 hb, xt_vi hx20 ha, fun c1 e1 => ⟨xt_vi hx20 hb, fun c2 e2 z ez => ?_⟩⟩⟩
      rw [ez, nI_1]
      refine ih (x + 1) c2 (by omega) (fun i j hi hj => ?_)
      rw [e2, e1, ey]
      by_cases ej : i = x
      · subst ej
        rw [if_pos (by omega)]
        by_cases ib : j = b
        · subst ib
          rw [xs_us, h i a hi ha, if_neg (by omega)]
          congr 1
          unfold wi_sw
          split <;> simp_all
        · rw [xs_un (by omega)]
          by_cases ia : j = a
          · subst ia
            rw [xs_us, h i b hi hb, if_neg (by omega)]
            congr 1
            unfold wi_sw
            simp
          · rw [xs_un (by omega), h i j hi hj, if_neg (by omega)]
            congr 1
            unfold wi_sw
            simp [ia, ib]
      · rw [xs_un (by omega), xs_un (by omega), h i j hi hj]
        by_cases q : i < x
        · rw [if_pos q, if_pos (by omega)]
        · rw [if_neg q, if_neg (by omega)]
  exact ⟨21, l 20 0 cells rfl (fun i j _ _ => by rw [if_neg (by omega)])⟩
/-- a crossed entry and its rest -/
def xm_y (cells : Nat → Int32) (t c i j : Nat) : Int32 := cells (20 * t + c) * cells (20 * i + j) - cells (20 * i + c) * cells (20 * t + j)
def xm_E (cells : Nat → Int32) (t c : Nat) (p : Int32) (i j : Nat) : Int32 := xm_y cells t c i j - xm_y cells t c i j / p * p
theorem xm_clear {post : SX → Prop} {lev : Int32} {held : Nat → Int64} {place cells : Nat → Int32} {t c : Nat} {p : Int32} (ht : t < 20) (hc : c < 20) (hp0 : ¬ p = 0) (hp : ∀ c', (∀ i j, i < 20 → j < 20 → c' (20 * i + j) = if t < i ∧ c ≤ j then xm_E cells t c p i j else cells (20 * i + j)) → post (lev, held, place, c')) : wpX_clearBelow post (lev, held, place, cells) (nI t) (nI c) p := by
  have l : ∀ d x w, x + d = 20 → t < x → (∀ i j, i < 20 → j < 20 → w (20 * i + j) = if t < i ∧ i < x ∧ c ≤ j then xm_E cells t c p i j else cells (20 * i + j)) → wX_clearBelow_18 post (nI t) (nI c) p (cells (20 * t + c)) lev (d + 1) (nI x) held place w := by
    intro d
    induction d with
    | zero =>
      intro x w hx h1 h
      have e : x = 20 := by omega
      subst e
      refine br_t xm_ge (hp w (fun i j hi hj => ?_))
      rw [h i j hi hj]
      by_cases q : t < i ∧ c ≤ j
      · rw [if_pos ⟨q.1, hi, q.2⟩, if_pos q]
      · rw [if_neg (fun z => q ⟨z.1, z.2.2⟩), if_neg q]
    | succ d ih =>
      intro x w hx h1 h
      have hx20 : x < 20 := by omega
      refine br_f (xm_lt hx20) ?_
      rw [xt_ix, xt_cl hx20 hc]
      refine ⟨xt_vi hx20 hc, fun f ef => ?_⟩
      have ef2 : f = cells (20 * x + c) := by rw [ef, h x c hx20 hc, if_neg (by omega)]
      have l2 : ∀ d2 y w2, y + d2 = 20 → c ≤ y → (∀ i j, i < 20 → j < 20 → w2 (20 * i + j) = if (t < i ∧ i < x ∧ c ≤ j) ∨ (i = x ∧ c ≤ j ∧ j < y) then xm_E cells t c p i j else cells (20 * i + j)) → wX_clearBelow_42 post (wX_clearBelow_18 post (nI t) (nI c) p (cells (20 * t + c)) lev (d + 1)) (nI t) (nI c) p (cells (20 * t + c)) (nI x) f lev (d2 + 1) (nI y) held place w2 := by
        intro d2
        induction d2 with
        | zero =>
          intro y w2 hy hcy h2
          have e : y = 20 := by omega
          subst e
          refine br_t xm_ge (fun z ez => ?_)
          rw [ez, nI_1]
          refine ih (x + 1) w2 (by omega) (by omega) (fun i j hi hj => ?_)
          rw [h2 i j hi hj]
          by_cases q : t < i ∧ i < x + 1 ∧ c ≤ j
          · rw [if_pos q, if_pos (by omega)]
          · rw [if_neg q, if_neg (by omega)]
        | succ d2 ih2 =>
          intro y w2 hy hcy h2
          have hy20 : y < 20 := by omega
          refine br_f (xm_lt hy20) ?_
          rw [xt_ix, xt_ix, xt_cl hx20 hy20, xt_cl ht hy20]
          refine ⟨xt_vi hx20 hy20, xt_vi ht hy20, fun g eg => ⟨hp0, xt_vi hx20 hy20, fun w3 e3 z ez => ?_⟩⟩
          rw [ez, nI_1]
          have eg2 : g = xm_y cells t c x y := by
            rw [eg, h2 x y hx20 hy20, h2 t y ht hy20, if_neg (by omega), if_neg (by omega), ef2]
            rfl
          refine ih2 (y + 1) w3 (by omega) (by omega) (fun i j hi hj => ?_)
          rw [e3]
          by_cases eij : i = x ∧ j = y
          · rw [eij.1, eij.2, xs_us, if_pos (by omega), eg2]
            rfl
          · rw [xs_un (by omega), h2 i j hi hj]
            by_cases q : (t < i ∧ i < x ∧ c ≤ j) ∨ (i = x ∧ c ≤ j ∧ j < y)
            · rw [if_pos q, if_pos (by omega)]
            · rw [if_neg q, if_neg (by omega)]
      refine ⟨20 - c + 1, l2 (20 - c) c w (by omega) (Nat.le_refl c) (fun i j hi hj => ?_)⟩
      rw [h i j hi hj]
      by_cases q : t < i ∧ i < x ∧ c ≤ j
      · rw [if_pos q, if_pos (Or.inl q)]
      · rw [if_neg q, if_neg (by omega)]
  unfold wpX_clearBelow
  dsimp only
  rw [xt_ix, xt_cl ht hc]
  refine ⟨xt_vi ht hc, fun y ey z ez => ?_⟩
  rw [ey, ez, nI_1]
  exact ⟨20 - (t + 1) + 1, l (20 - (t + 1)) (t + 1) cells (by omega) (by omega) (fun i j hi hj => by rw [if_neg (by omega)])⟩
theorem xm_yT {cells : Nat → Int32} {t c i j : Nat} {q : Int} (hq : q ≤ 2000) (ht : t < 20) (hc : c < 20) (hi : i < 20) (hj : j < 20) (hb : ∀ i j, i < 20 → j < 20 → -q ≤ (cells (20 * i + j)).toInt ∧ (cells (20 * i + j)).toInt ≤ q) : (xm_y cells t c i j).toInt = (cells (20 * t + c)).toInt * (cells (20 * i + j)).toInt - (cells (20 * i + c)).toInt * (cells (20 * t + j)).toInt := by
  have b1 := hb t c ht hc
  have b2 := hb i j hi hj
  have b3 := hb i c hi hc
  have b4 := hb t j ht hj
  have p1 := nu_pr (m := 2000) (show -2000 ≤ _ by omega) (show (cells (20 * t + c)).toInt ≤ 2000 by omega) (show -2000 ≤ _ by omega) (show (cells (20 * i + j)).toInt ≤ 2000 by omega)
  have p2 := nu_pr (m := 2000) (show -2000 ≤ _ by omega) (show (cells (20 * i + c)).toInt ≤ 2000 by omega) (show -2000 ≤ _ by omega) (show (cells (20 * t + j)).toInt ≤ 2000 by omega)
  unfold xm_y
  rw [nu_sub, nu_mul (by omega) (by omega), nu_mul (by omega) (by omega)]
  · rw [nu_mul (by omega) (by omega), nu_mul (by omega) (by omega)]; omega
  · rw [nu_mul (by omega) (by omega), nu_mul (by omega) (by omega)]; omega
theorem xm_rank {post : Int32 → SX → Prop} {lev : Int32} {held : Nat → Int64} {place cells : Nat → Int32} {p : Int32} {q : Int} (hpq : p.toInt = q) (hq : rk_P q) (q2 : 2 ≤ q) (q3 : q ≤ 2000) (hb : ∀ i j, i < 20 → j < 20 → -q < (cells (20 * i + j)).toInt ∧ (cells (20 * i + j)).toInt < q) (hp : ∀ r c', r ≤ 20 → rk_R q (tb_X cells) r → post (nI r) (lev, held, place, c')) : wpX_rankModulo post (lev, held, place, cells) p := by
  have hp0 : ¬ p = 0 := fun z => by
    rw [z] at hpq
    have : (0 : Int32).toInt = 0 := by decide
    omega
  have zero : ∀ {A : Nat → Nat → Int}, (∀ i j, A i j = 0) → rk_R q A 0 := fun h => rk_R_zero hq (fun i j => by rw [h]; exact Int.dvd_zero _)
  have l : ∀ d r c w, c + d = 20 → r ≤ 20 → (∀ i j, i < 20 → j < 20 → -q < (w (20 * i + j)).toInt ∧ (w (20 * i + j)).toInt < q) → (∀ s, rk_R q (wi_w (tb_X w) r c) s → rk_R q (tb_X cells) (r + s)) → wX_rankModulo_4 post p (d + 1) (nI r) (nI c) lev held place w := by
    intro d
    induction d with
    | zero =>
      intro r c w hc hr _ h
      have e : c = 20 := by omega
      subst e
      refine br_t xm_ge (hp r w hr ?_)
      have := h 0 (zero (fun i j => by
        by_cases z : r ≤ i ∧ 20 ≤ j
        · rw [wi_in z.1 z.2]; unfold tb_X; rw [if_neg (by omega)]
        · exact if_neg z))
      rwa [Nat.add_zero] at this
    | succ d ih =>
      intro r c w hc hr hw h
      have hc20 : c < 20 := by omega
      refine br_f (xm_lt hc20) ?_
      by_cases r20 : r = 20
      · subst r20
        refine br_t xm_ge (hp 20 w hr ?_)
        have := h 0 (zero (fun i j => by
          by_cases z : 20 ≤ i ∧ c ≤ j
          · rw [wi_in z.1 z.2]; unfold tb_X; rw [if_neg (by omega)]
          · exact if_neg z))
        rwa [Nat.add_zero] at this
      have hr20 : r < 20 := by omega
      refine br_f (xm_lt hr20) (xm_row hr hc20 (fun t h1 h2 h3 h4 => ?_))
      by_cases t20 : t = 20
      · subst t20
        refine br_t xm_ge (fun y ey => ?_)
        rw [ey, nI_1]
        refine ih r (c + 1) w (by omega) hr hw (fun s hs => h s ?_)
        rw [wi_col (fun i hi => ?_)]
        · exact hs
        · unfold tb_X
          by_cases z : i < 20 ∧ c < 20
          · rw [if_pos z, h3 i hi z.1]; rfl
          · rw [if_neg z]
      · have ht20 : t < 20 := by omega
        refine br_f (xm_lt ht20) (xm_swapR hr20 ht20 (fun w1 e1 => ?_))
        refine xm_clear hr20 hc20 hp0 (fun w2 e2 => ?_)
        intro y ey z ez
        rw [ey, ez, nI_1, nI_1]
        have hw1 : ∀ i j, i < 20 → j < 20 → -q < (w1 (20 * i + j)).toInt ∧ (w1 (20 * i + j)).toInt < q := fun i j hi hj => by
          rw [e1 i j hi hj]
          exact hw _ _ ((wi_sw_lt hr20 ht20).mpr hi) hj
        have hw1' : ∀ i j, i < 20 → j < 20 → -q ≤ (w1 (20 * i + j)).toInt ∧ (w1 (20 * i + j)).toInt ≤ q := fun i j hi hj => by
          have := hw1 i j hi hj
          omega
        have hE : ∀ i j, i < 20 → j < 20 → (xm_E w1 r c p i j).toInt = ((w1 (20 * r + c)).toInt * (w1 (20 * i + j)).toInt - (w1 (20 * i + c)).toInt * (w1 (20 * r + j)).toInt).tmod q := fun i j hi hj => by
          unfold xm_E
          rw [rem_toInt, hpq, xm_yT q3 hr20 hc20 hi hj hw1']
        have hsw : ∀ i j, tb_X w1 i j = tb_X w (wi_sw r t i) j := by
          intro i j
          unfold tb_X
          by_cases hi : i < 20
          · by_cases hj : j < 20
            · rw [if_pos ⟨hi, hj⟩, if_pos ⟨(wi_sw_lt hr20 ht20).mpr hi, hj⟩, e1 i j hi hj]
            · rw [if_neg (fun z => hj z.2), if_neg (fun z => hj z.2)]
          · rw [if_neg (fun z => hi z.1), if_neg (fun z => hi ((wi_sw_lt hr20 ht20).mp z.1))]
        refine ih (r + 1) (c + 1) w2 (by omega) (by omega) (fun i j hi hj => ?_) (fun s hs => ?_)
        · rw [e2 i j hi hj]
          by_cases g : r < i ∧ c ≤ j
          · rw [if_pos g, hE i j hi hj]
            exact tmod_bounds (by omega)
          · rw [if_neg g]; exact hw1 i j hi hj
        · have lead : tb_X w1 r c = (w1 (20 * r + c)).toInt := by unfold tb_X; rw [if_pos ⟨hr20, hc20⟩]
          have nz : ¬ q ∣ wi_w (tb_X w1) r c r c := by
            rw [wi_in (Nat.le_refl r) (Nat.le_refl c), lead]
            have ne : w1 (20 * r + c) ≠ 0 := by
              rw [e1 r c hr20 hc20]
              have : wi_sw r t r = t := by unfold wi_sw; rw [if_pos rfl]
              rw [this]
              exact h4 ht20
            have ne2 : (w1 (20 * r + c)).toInt ≠ 0 := fun z => ne (Int32.toInt_inj.mp (by rw [z]; rfl))
            have b := hw1 r c hr20 hc20
            rintro ⟨m, hm⟩
            rw [hm] at ne2 b
            by_cases m0 : m = 0
            · rw [m0, Int.mul_zero] at ne2; exact ne2 rfl
            · by_cases mp : 0 < m
              · have : q * 1 ≤ q * m := Int.mul_le_mul_of_nonneg_left (by omega) (by omega)
                rw [Int.mul_one] at this
                omega
              · have : q * m ≤ q * (-1) := Int.mul_le_mul_of_nonneg_left (by omega) (by omega)
                rw [Int.mul_neg, Int.mul_one] at this
                omega
          have hm : ∀ i j, r < i → c < j → q ∣ tb_X w2 i j - (tb_X w1 r c * tb_X w1 i j - tb_X w1 i c * tb_X w1 r j) := by
            intro i j hi hj
            by_cases hij : i < 20 ∧ j < 20
            · have x2 : tb_X w2 i j = (w2 (20 * i + j)).toInt := by unfold tb_X; rw [if_pos hij]
              have x1 : tb_X w1 i j = (w1 (20 * i + j)).toInt := by unfold tb_X; rw [if_pos hij]
              have x3 : tb_X w1 i c = (w1 (20 * i + c)).toInt := by unfold tb_X; rw [if_pos ⟨hij.1, hc20⟩]
              have x4 : tb_X w1 r j = (w1 (20 * r + j)).toInt := by unfold tb_X; rw [if_pos ⟨hr20, hij.2⟩]
              rw [x2, x1, x3, x4, lead, e2 i j hij.1 hij.2, if_pos ⟨hi, by omega⟩, hE i j hij.1 hij.2]
              generalize (w1 (20 * r + c)).toInt * (w1 (20 * i + j)).toInt - (w1 (20 * i + c)).toInt * (w1 (20 * r + j)).toInt = g
              rw [Int.tmod_def]
              exact ⟨- g.tdiv q, by rw [Int.mul_neg]; omega⟩
            · have x2 : tb_X w2 i j = 0 := by unfold tb_X; rw [if_neg hij]
              have x1 : tb_X w1 i j = 0 := by unfold tb_X; rw [if_neg hij]
              have x3 : tb_X w1 i c * tb_X w1 r j = 0 := by
                by_cases i20 : i < 20
                · have : tb_X w1 r j = 0 := by unfold tb_X; rw [if_neg (by omega)]
                  rw [this, Int.mul_zero]
                · have : tb_X w1 i c = 0 := by unfold tb_X; rw [if_neg (by omega)]
                  rw [this, Int.zero_mul]
              rw [x2, x1, x3, Int.mul_zero]
              exact Int.dvd_zero q
          have R1 := rk_R_m hq nz (wi_Vm hm) hs
          have R2 : rk_R q (wi_w (tb_X w) r c) (s + 1) := wi_R_re (wi_sw r t) (fun j => j) (wi_sw_sw r t) (fun _ => rfl) (wi_re (wi_sw r t) (fun j => j) (fun i => wi_sw_ge (Nat.le_refl r) h1) (fun _ => Iff.rfl) hsw) R1
          have := h (s + 1) R2
          rw [show r + 1 + s = r + (s + 1) by omega]
          exact this
  refine ⟨21, l 20 0 0 cells rfl (by omega) hb (fun s hs => ?_)⟩
  rw [Nat.zero_add]
  have : wi_w (tb_X cells) 0 0 = tb_X cells := by
    funext i j
    exact wi_in (Nat.zero_le i) (Nat.zero_le j)
  rwa [this] at hs
end
section
/-! X's diagonal -/
def xd_K (cells : Nat → Int32) (t : Nat) (Sc : Nat → Nat → Prop) (least amount : Int32) : Prop := ∃ p c, t ≤ p ∧ p < 20 ∧ t ≤ c ∧ c < 20 ∧ least = nI (20 * p + c) ∧ ((amount = 0 ∧ p = t ∧ c = t ∧ ∀ i j, t ≤ i → i < 20 → t ≤ j → j < 20 → Sc i j → (cells (20 * i + j)).toInt = 0) ∨ (0 < amount.toInt ∧ amount.toInt = ((cells (20 * p + c)).toInt.natAbs : Int) ∧ ∀ i j, t ≤ i → i < 20 → t ≤ j → j < 20 → Sc i j → (cells (20 * i + j)).toInt ≠ 0 → amount.toInt ≤ ((cells (20 * i + j)).toInt.natAbs : Int)))
theorem xd_mono {cells : Nat → Int32} {t : Nat} {Sc Sd : Nat → Nat → Prop} {least amount : Int32} (h : ∀ i j, t ≤ i → i < 20 → t ≤ j → j < 20 → Sd i j → Sc i j) (K : xd_K cells t Sc least amount) : xd_K cells t Sd least amount := by
  obtain ⟨p, c, h1, h2, h3, h4, e, K⟩ := K
  refine ⟨p, c, h1, h2, h3, h4, e, ?_⟩
  rcases K with ⟨a, b, c', d⟩ | ⟨a, b, d⟩
  · exact Or.inl ⟨a, b, c', fun i j i1 i2 j1 j2 s => d i j i1 i2 j1 j2 (h i j i1 i2 j1 j2 s)⟩
  · exact Or.inr ⟨a, b, fun i j i1 i2 j1 j2 s => d i j i1 i2 j1 j2 (h i j i1 i2 j1 j2 s)⟩
theorem xd_z0 : (0 : Int32).toInt = 0 := by decide
theorem xd_57 {post : Int32 → Prop} {J12 J22 : Int32 → Int32 → Int32 → Prop} {lev : Int32} {held : Nat → Int64} {place cells : Nat → Int32} {x1 least amount z : Int32} {t i0 j0 : Nat} {Sc Sd : Nat → Nat → Prop} (hi1 : t ≤ i0) (hi : i0 < 20) (hj1 : t ≤ j0) (hj : j0 < 20) (K : xd_K cells t Sc least amount) (hS : ∀ i j, Sd i j → Sc i j ∨ (i = i0 ∧ j = j0)) (hz : z.toInt = ((cells (20 * i0 + j0)).toInt.natAbs : Int)) (hJ : ∀ least' amount', xd_K cells t Sd least' amount' → J22 least' amount' (nI (j0 + 1))) : wX_leastCell_57 post J12 J22 x1 least amount (nI i0) (nI j0) z lev held place cells := by
  have new : (∀ i j, t ≤ i → i < 20 → t ≤ j → j < 20 → Sc i j → (cells (20 * i + j)).toInt ≠ 0 → z.toInt ≤ ((cells (20 * i + j)).toInt.natAbs : Int)) → 0 < z.toInt → wX_leastCell_74 post J12 J22 x1 (nI i0) (nI j0) z lev held place cells := by
    intro hm hp y ey y2 ey2
    rw [ey, ey2, nI_1, xt_ix]
    refine hJ _ _ ⟨i0, j0, hi1, hi, hj1, hj, rfl, Or.inr ⟨hp, hz, fun i j i1 i2 j1 j2 s ne => ?_⟩⟩
    rcases hS i j s with s | ⟨e1, e2⟩
    · exact hm i j i1 i2 j1 j2 s ne
    · rw [e1, e2, hz]; exact Int.le_refl _
  obtain ⟨p, c, h1, h2, h3, h4, e, K⟩ := K
  by_cases z0 : z = 0
  · have c0 : (cells (20 * i0 + j0)).toInt = 0 := by
      rw [z0, xd_z0] at hz
      omega
    refine br_t z0 (fun y ey => ?_)
    rw [ey, nI_1]
    refine hJ _ _ ⟨p, c, h1, h2, h3, h4, e, ?_⟩
    rcases K with ⟨a, b, c', d⟩ | ⟨a, b, d⟩
    · refine Or.inl ⟨a, b, c', fun i j i1 i2 j1 j2 s => ?_⟩
      rcases hS i j s with s | ⟨e1, e2⟩
      · exact d i j i1 i2 j1 j2 s
      · rw [e1, e2]; exact c0
    · refine Or.inr ⟨a, b, fun i j i1 i2 j1 j2 s ne => ?_⟩
      rcases hS i j s with s | ⟨e1, e2⟩
      · exact d i j i1 i2 j1 j2 s ne
      · rw [e1, e2] at ne; exact absurd c0 ne
  · have zp : 0 < z.toInt := by
      have : z.toInt ≠ 0 := fun q => z0 (Int32.toInt_inj.mp (by rw [q, xd_z0]))
      omega
    refine br_f z0 ?_
    rcases K with ⟨a, b, c', d⟩ | ⟨a, b, d⟩
    · exact br_t a (new (fun i j i1 i2 j1 j2 s ne => absurd (d i j i1 i2 j1 j2 s) ne) zp)
    · refine br_f (fun q => by rw [q, xd_z0] at a; omega) ?_
      by_cases le : amount ≤ z
      · refine br_t le (fun y ey => ?_)
        rw [ey, nI_1]
        rw [Int32.le_iff_toInt_le] at le
        refine hJ _ _ ⟨p, c, h1, h2, h3, h4, e, Or.inr ⟨a, b, fun i j i1 i2 j1 j2 s ne => ?_⟩⟩
        rcases hS i j s with s | ⟨e1, e2⟩
        · exact d i j i1 i2 j1 j2 s ne
        · rw [e1, e2, ← hz]; exact le
      · refine br_f le (new (fun i j i1 i2 j1 j2 s ne => ?_) zp)
        rw [Int32.le_iff_toInt_le] at le
        have := d i j i1 i2 j1 j2 s ne
        omega
theorem xd_least {post : Int32 → Prop} {lev : Int32} {held : Nat → Int64} {place cells : Nat → Int32} {t : Nat} (ht : t < 20) (hb : ∀ i j, t ≤ i → i < 20 → t ≤ j → j < 20 → -2 ≤ (cells (20 * i + j)).toInt ∧ (cells (20 * i + j)).toInt ≤ 2) (hp : ∀ p c, t ≤ p → p < 20 → t ≤ c → c < 20 → ((p = t ∧ c = t ∧ ∀ i j, t ≤ i → i < 20 → t ≤ j → j < 20 → (cells (20 * i + j)).toInt = 0) ∨ ((cells (20 * p + c)).toInt ≠ 0 ∧ ∀ i j, t ≤ i → i < 20 → t ≤ j → j < 20 → (cells (20 * i + j)).toInt ≠ 0 → (cells (20 * p + c)).toInt.natAbs ≤ (cells (20 * i + j)).toInt.natAbs)) → post (nI (20 * p + c))) : wpX_leastCell post (lev, held, place, cells) (nI t) := by
  have l : ∀ d r least amount, r + d = 20 → t ≤ r → xd_K cells t (fun i _ => i < r) least amount → wX_leastCell_12 post (nI t) lev held place cells (d + 1) least amount (nI r) := by
    intro d
    induction d with
    | zero =>
      intro r least amount hr _ K
      have e : r = 20 := by omega
      subst e
      refine br_t xm_ge ?_
      obtain ⟨p, c, h1, h2, h3, h4, e, K⟩ := K
      rw [e]
      refine hp p c h1 h2 h3 h4 ?_
      rcases K with ⟨a, b, c', d⟩ | ⟨a, b, d⟩
      · exact Or.inl ⟨b, c', fun i j i1 i2 j1 j2 => d i j i1 i2 j1 j2 i2⟩
      · refine Or.inr ⟨by omega, fun i j i1 i2 j1 j2 ne => ?_⟩
        have := d i j i1 i2 j1 j2 i2 ne
        omega
    | succ d ih =>
      intro r least amount hr htr K
      have hr20 : r < 20 := by omega
      refine br_f (xm_lt hr20) ?_
      have l2 : ∀ d2 x least amount, x + d2 = 20 → t ≤ x → xd_K cells t (fun i j => i < r ∨ (i = r ∧ j < x)) least amount → wX_leastCell_22 post (wX_leastCell_12 post (nI t) lev held place cells (d + 1)) (nI t) (nI r) lev held place cells (d2 + 1) least amount (nI x) := by
        intro d2
        induction d2 with
        | zero =>
          intro x least amount hx _ K
          have e : x = 20 := by omega
          subst e
          refine br_t xm_ge (fun y ey => ?_)
          rw [ey, nI_1]
          exact ih (r + 1) least amount (by omega) (by omega) (xd_mono (fun i j _ _ _ j2 s => by omega) K)
        | succ d2 ih2 =>
          intro x least amount hx htx K
          have hx20 : x < 20 := by omega
          refine br_f (xm_lt hx20) ?_
          rw [xt_ix, xt_cl hr20 hx20]
          refine ⟨xt_vi hr20 hx20, fun e ee => ?_⟩
          have b := hb r x htr hr20 htx hx20
          have go : ∀ z : Int32, z.toInt = ((cells (20 * r + x)).toInt.natAbs : Int) → wX_leastCell_57 post (wX_leastCell_12 post (nI t) lev held place cells (d + 1)) (wX_leastCell_22 post (wX_leastCell_12 post (nI t) lev held place cells (d + 1)) (nI t) (nI r) lev held place cells (d2 + 1)) (nI t) least amount (nI r) (nI x) z lev held place cells := fun z hz => xd_57 htr hr20 htx hx20 K (fun i j s => by omega) hz (fun least' amount' K' => ih2 (x + 1) least' amount' (by omega) (by omega) (xd_mono (fun i j _ _ _ _ s => by
            have s : i < r ∨ (i = r ∧ j < x + 1) := s
            omega) K'))
          by_cases h0 : 0 ≤ e
          · refine br_t h0 (go e ?_)
            rw [Int32.le_iff_toInt_le, xd_z0, ee] at h0
            rw [ee]; omega
          · refine br_f h0 (go (-e) ?_)
            rw [Int32.le_iff_toInt_le, xd_z0, ee] at h0
            rw [ee, nu_neg (by omega) (by omega)]; omega
      exact ⟨20 - t + 1, l2 (20 - t) t least amount (by omega) (Nat.le_refl t) (xd_mono (fun i j _ _ _ _ s => by omega) K)⟩
  unfold wpX_leastCell
  dsimp only
  intro y ey
  rw [ey, xt_ix]
  exact ⟨20 - t + 1, l (20 - t) t _ 0 (by omega) (Nat.le_refl t) ⟨t, t, Nat.le_refl t, ht, Nat.le_refl t, ht, rfl, Or.inl ⟨rfl, rfl, rfl, fun i j i1 i2 j1 j2 s => by omega⟩⟩⟩
/-! lessen -/
theorem xd_lrows {post : SX → Prop} {lev : Int32} {held : Nat → Int64} {place cells : Nat → Int32} {t : Nat} (ht : t < 20) (h0 : cells (20 * t + t) = 0 → post (lev, held, place, cells)) (hp : cells (20 * t + t) ≠ 0 → ∀ c', (∀ i j, i < 20 → j < 20 → c' (20 * i + j) = if t < i ∧ t ≤ j then cells (20 * i + j) - cells (20 * i + t) / cells (20 * t + t) * cells (20 * t + j) else cells (20 * i + j)) → post (lev, held, place, c')) : wpX_lessenRows post (lev, held, place, cells) (nI t) := by
  unfold wpX_lessenRows
  dsimp only
  rw [xt_ix, xt_cl ht ht]
  refine ⟨xt_vi ht ht, fun a ea => ?_⟩
  subst ea
  by_cases z : cells (20 * t + t) = 0
  · exact br_t z (h0 z)
  refine br_f z (fun y ey => ?_)
  rw [ey, nI_1]
  have l : ∀ d x w, x + d = 20 → t < x → (∀ i j, i < 20 → j < 20 → w (20 * i + j) = if t < i ∧ i < x ∧ t ≤ j then cells (20 * i + j) - cells (20 * i + t) / cells (20 * t + t) * cells (20 * t + j) else cells (20 * i + j)) → wX_lessenRows_21 post (nI t) (cells (20 * t + t)) lev (d + 1) (nI x) held place w := by
    intro d
    induction d with
    | zero =>
      intro x w hx h1 h
      have e : x = 20 := by omega
      subst e
      refine br_t xm_ge (hp z w (fun i j hi hj => ?_))
      rw [h i j hi hj]
      by_cases q : t < i ∧ t ≤ j
      · rw [if_pos ⟨q.1, hi, q.2⟩, if_pos q]
      · rw [if_neg (fun z => q ⟨z.1, z.2.2⟩), if_neg q]
    | succ d ih =>
      intro x w hx h1 h
      have hx20 : x < 20 := by omega
      refine br_f (xm_lt hx20) ?_
      rw [xt_ix, xt_cl hx20 ht]
      refine ⟨xt_vi hx20 ht, z, fun f ef => ?_⟩
      rw [h x t hx20 ht, if_neg (by omega)] at ef
      have l2 : ∀ d2 y w2, y + d2 = 20 → t ≤ y → (∀ i j, i < 20 → j < 20 → w2 (20 * i + j) = if (t < i ∧ i < x ∧ t ≤ j) ∨ (i = x ∧ t ≤ j ∧ j < y) then cells (20 * i + j) - cells (20 * i + t) / cells (20 * t + t) * cells (20 * t + j) else cells (20 * i + j)) → wX_lessenRows_45 post (wX_lessenRows_21 post (nI t) (cells (20 * t + t)) lev (d + 1)) (nI t) (cells (20 * t + t)) (nI x) f lev (d2 + 1) (nI y) held place w2 := by
        intro d2
        induction d2 with
        | zero =>
          intro y w2 hy hcy h2
          have e : y = 20 := by omega
          subst e
          refine br_t xm_ge (fun z ez => ?_)
          rw [ez, nI_1]
          refine ih (x + 1) w2 (by omega) (by omega) (fun i j hi hj => ?_)
          rw [h2 i j hi hj]
          by_cases q : t < i ∧ i < x + 1 ∧ t ≤ j
          · rw [if_pos q, if_pos (by omega)]
          · rw [if_neg q, if_neg (by omega)]
        | succ d2 ih2 =>
          intro y w2 hy hcy h2
          have hy20 : y < 20 := by omega
          refine br_f (xm_lt hy20) ?_
          rw [xt_ix, xt_ix, xt_cl hx20 hy20, xt_cl ht hy20]
          refine ⟨xt_vi hx20 hy20, xt_vi ht hy20, xt_vi hx20 hy20, fun w3 e3 z ez => ?_⟩
          rw [ez, nI_1]
          rw [h2 x y hx20 hy20, h2 t y ht hy20, if_neg (by omega), if_neg (by omega), ef] at e3
          refine ih2 (y + 1) w3 (by omega) (by omega) (fun i j hi hj => ?_)
          rw [e3]
          by_cases eij : i = x ∧ j = y
          · rw [eij.1, eij.2, xs_us, if_pos (by omega)]
          · rw [xs_un (by omega), h2 i j hi hj]
            by_cases q : (t < i ∧ i < x ∧ t ≤ j) ∨ (i = x ∧ t ≤ j ∧ j < y)
            · rw [if_pos q, if_pos (by omega)]
            · rw [if_neg q, if_neg (by omega)]
      refine ⟨20 - t + 1, l2 (20 - t) t w (by omega) (Nat.le_refl t) (fun i j hi hj => ?_)⟩
      rw [h i j hi hj]
      by_cases q : t < i ∧ i < x ∧ t ≤ j
      · rw [if_pos q, if_pos (Or.inl q)]
      · rw [if_neg q, if_neg (by omega)]
  exact ⟨20 - (t + 1) + 1, l (20 - (t + 1)) (t + 1) cells (by omega) (by omega) (fun i j hi hj => by rw [if_neg (by omega)])⟩
theorem xd_lcols {post : SX → Prop} {lev : Int32} {held : Nat → Int64} {place cells : Nat → Int32} {t : Nat} (ht : t < 20) (h0 : cells (20 * t + t) = 0 → post (lev, held, place, cells)) (hp : cells (20 * t + t) ≠ 0 → ∀ c', (∀ i j, i < 20 → j < 20 → c' (20 * i + j) = if t < j ∧ t ≤ i then cells (20 * i + j) - cells (20 * t + j) / cells (20 * t + t) * cells (20 * i + t) else cells (20 * i + j)) → post (lev, held, place, c')) : wpX_lessenColumns post (lev, held, place, cells) (nI t) := by
  unfold wpX_lessenColumns
  dsimp only
  rw [xt_ix, xt_cl ht ht]
  refine ⟨xt_vi ht ht, fun a ea => ?_⟩
  subst ea
  by_cases z : cells (20 * t + t) = 0
  · exact br_t z (h0 z)
  refine br_f z (fun y ey => ?_)
  rw [ey, nI_1]
  have l : ∀ d x w, x + d = 20 → t < x → (∀ i j, i < 20 → j < 20 → w (20 * i + j) = if t < j ∧ j < x ∧ t ≤ i then cells (20 * i + j) - cells (20 * t + j) / cells (20 * t + t) * cells (20 * i + t) else cells (20 * i + j)) → wX_lessenColumns_21 post (nI t) (cells (20 * t + t)) lev (d + 1) (nI x) held place w := by
    intro d
    induction d with
    | zero =>
      intro x w hx h1 h
      have e : x = 20 := by omega
      subst e
      refine br_t xm_ge (hp z w (fun i j hi hj => ?_))
      rw [h i j hi hj]
      by_cases q : t < j ∧ t ≤ i
      · rw [if_pos ⟨q.1, hj, q.2⟩, if_pos q]
      · rw [if_neg (fun z => q ⟨z.1, z.2.2⟩), if_neg q]
    | succ d ih =>
      intro x w hx h1 h
      have hx20 : x < 20 := by omega
      refine br_f (xm_lt hx20) ?_
      rw [xt_ix, xt_cl ht hx20]
      refine ⟨xt_vi ht hx20, z, fun f ef => ?_⟩
      rw [h t x ht hx20, if_neg (by omega)] at ef
      have l2 : ∀ d2 y w2, y + d2 = 20 → t ≤ y → (∀ i j, i < 20 → j < 20 → w2 (20 * i + j) = if (t < j ∧ j < x ∧ t ≤ i) ∨ (j = x ∧ t ≤ i ∧ i < y) then cells (20 * i + j) - cells (20 * t + j) / cells (20 * t + t) * cells (20 * i + t) else cells (20 * i + j)) → wX_lessenColumns_45 post (wX_lessenColumns_21 post (nI t) (cells (20 * t + t)) lev (d + 1)) (nI t) (cells (20 * t + t)) (nI x) f lev (d2 + 1) (nI y) held place w2 := by
        intro d2
        induction d2 with
        | zero =>
          intro y w2 hy hcy h2
          have e : y = 20 := by omega
          subst e
          refine br_t xm_ge (fun z ez => ?_)
          rw [ez, nI_1]
          refine ih (x + 1) w2 (by omega) (by omega) (fun i j hi hj => ?_)
          rw [h2 i j hi hj]
          by_cases q : t < j ∧ j < x + 1 ∧ t ≤ i
          · rw [if_pos q, if_pos (by omega)]
          · rw [if_neg q, if_neg (by omega)]
        | succ d2 ih2 =>
          intro y w2 hy hcy h2
          have hy20 : y < 20 := by omega
          refine br_f (xm_lt hy20) ?_
          rw [xt_ix, xt_ix, xt_cl hy20 hx20, xt_cl hy20 ht]
          refine ⟨xt_vi hy20 hx20, xt_vi hy20 ht, xt_vi hy20 hx20, fun w3 e3 z ez => ?_⟩
          rw [ez, nI_1]
          rw [h2 y x hy20 hx20, h2 y t hy20 ht, if_neg (by omega), if_neg (by omega), ef] at e3
          refine ih2 (y + 1) w3 (by omega) (by omega) (fun i j hi hj => ?_)
          rw [e3]
          by_cases eij : i = y ∧ j = x
          · rw [eij.1, eij.2, xs_us, if_pos (by omega)]
          · rw [xs_un (by omega), h2 i j hi hj]
            by_cases q : (t < j ∧ j < x ∧ t ≤ i) ∨ (j = x ∧ t ≤ i ∧ i < y)
            · rw [if_pos q, if_pos (by omega)]
            · rw [if_neg q, if_neg (by omega)]
      refine ⟨20 - t + 1, l2 (20 - t) t w (by omega) (Nat.le_refl t) (fun i j hi hj => ?_)⟩
      rw [h i j hi hj]
      by_cases q : t < j ∧ j < x ∧ t ≤ i
      · rw [if_pos q, if_pos (Or.inl q)]
      · rw [if_neg q, if_neg (by omega)]
  exact ⟨20 - (t + 1) + 1, l (20 - (t + 1)) (t + 1) cells (by omega) (by omega) (fun i j hi hj => by rw [if_neg (by omega)])⟩
theorem xd_alone {post : Int32 → Prop} {lev : Int32} {held : Nat → Int64} {place cells : Nat → Int32} {t : Nat} (ht : t < 20) (hr : ∀ i, t < i → i < 20 → cells (20 * i + t) = 0) (hc : ∀ i, t < i → i < 20 → cells (20 * t + i) = 0) (hp : post 1) : wpX_standsAlone post (lev, held, place, cells) (nI t) := by
  have l : ∀ d x, x + d = 20 → t < x → wX_standsAlone_4 post (nI t) lev held place cells (d + 1) (nI x) := by
    intro d
    induction d with
    | zero =>
      intro x hx _
      have e : x = 20 := by omega
      subst e
      exact br_t xm_ge hp
    | succ d ih =>
      intro x hx h
      have hx20 : x < 20 := by omega
      refine br_f (xm_lt hx20) ?_
      rw [xt_ix, xt_ix, xt_cl hx20 ht, xt_cl ht hx20]
      refine ⟨xt_vi hx20 ht, br_t (hr x h hx20) ⟨xt_vi ht hx20, br_t (hc x h hx20) (fun y ey => ?_)⟩⟩
      rw [ey, nI_1]
      exact ih (x + 1) (by omega) (by omega)
  unfold wpX_standsAlone
  dsimp only
  intro y ey
  rw [ey, nI_1]
  exact ⟨20 - (t + 1) + 1, l (20 - (t + 1)) (t + 1) (by omega) (by omega)⟩
end
section
/-! makeDiagonal -/
theorem xk_div {a d : Nat} (ha : a < 1000) (h0 : 0 < d) (hd : d < 1000) : nI a / nI d = nI (a / d) := by
  apply Int32.toInt_inj.mp
  rw [lg_idiv_nonneg (by rw [nI_toInt (by omega)]; omega) (by rw [nI_toInt (by omega)]; omega), nI_toInt (by omega), nI_toInt (by omega), nI_toInt (by have := Nat.div_le_self a d; omega)]
  first | rfl | exact (Int.natCast_ediv _ _).symm
theorem xk_sub {a b : Nat} (h : b ≤ a) : nI a - nI b = nI (a - b) := by
  obtain ⟨c, rfl⟩ : ∃ c, a = c + b := ⟨a - b, by omega⟩
  rw [← nI_add, Int32.add_sub_cancel, Nat.add_sub_cancel]
theorem xk_p {p c : Nat} (hp : p < 20) (hc : c < 20) : nI (20 * p + c) / 20 = nI p := by
  rw [show (20 : Int32) = nI 20 from rfl, xk_div (by omega) (by omega) (by omega), show (20 * p + c) / 20 = p by omega]
theorem xk_c {p c : Nat} (hp : p < 20) (hc : c < 20) : nI (20 * p + c) - nI (20 * p + c) / 20 * 20 = nI c := by
  rw [xk_p hp hc, show nI p * 20 = nI (p * 20) from (Int32.ofNat_mul p 20).symm, xk_sub (by omega), show 20 * p + c - p * 20 = c by omega]
theorem xk_c2 {p c : Nat} (hp : p < 20) (hc : c < 20) : nI (20 * p + c) - nI p * 20 = nI c := by
  rw [show nI p * 20 = nI (p * 20) from (Int32.ofNat_mul p 20).symm, xk_sub (by omega), show 20 * p + c - p * 20 = c by omega]
/-- an exact division of small numbers -/
theorem xk_ex {x a : Int32} {k : Int} (ha : a.toInt ≠ 0) (e : x.toInt = a.toInt * k) (h1 : -2 ≤ k) (h2 : k ≤ 2) : (x / a).toInt = k := by
  rw [Int32.toInt_div, e, Int.mul_tdiv_cancel_left _ ha]
  exact nu_b (by omega) (by omega)
theorem xk_cr {x k y : Int32} (hx1 : -2 ≤ x.toInt) (hx2 : x.toInt ≤ 2) (hk1 : -2 ≤ k.toInt) (hk2 : k.toInt ≤ 2) (hy1 : -2 ≤ y.toInt) (hy2 : y.toInt ≤ 2) : (x - k * y).toInt = x.toInt - k.toInt * y.toInt := by
  have p := nu_pr hk1 hk2 hy1 hy2
  rw [nu_sub, nu_mul (by omega) (by omega)]
  · rw [nu_mul (by omega) (by omega)]; omega
  · rw [nu_mul (by omega) (by omega)]; omega
theorem xk_z {x k y : Int32} (hy : y.toInt = 0) : (x - k * y) = x := by
  have : y = 0 := Int32.toInt_inj.mp (by rw [hy, xd_z0])
  rw [this]
  grind
def xk_n (c : Nat → Int32) (m i : Nat) : Bool := decide ((c (20 * i + i)).toInt.natAbs = m)
theorem xk_tb {c : Nat → Int32} {i j : Nat} (hi : i < 20) (hj : j < 20) : tb_X c i j = (c (20 * i + j)).toInt := by unfold tb_X; rw [if_pos ⟨hi, hj⟩]
theorem xk_to {c : Nat → Int32} {i j : Nat} (h : 20 ≤ i ∨ 20 ≤ j) : tb_X c i j = 0 := by unfold tb_X; rw [if_neg (by omega)]
/-- one turn: what is written, and what is left -/
theorem xk_turn {A0 : Nat → Nat → Int} {c c2 c3 c4 : Nat → Int32} {t u w : Nat} (ht : t < 20) (I : dg_I A0 (wi_w (tb_X c2) t t) u w) (hl : (c2 (20 * t + t)).toInt ≠ 0) (hm : ∀ i j, t ≤ i → i < 20 → t ≤ j → j < 20 → (c2 (20 * i + j)).toInt ≠ 0 → (c2 (20 * t + t)).toInt.natAbs ≤ (c2 (20 * i + j)).toInt.natAbs) (e3 : ∀ i j, i < 20 → j < 20 → c3 (20 * i + j) = if t < i ∧ t ≤ j then c2 (20 * i + j) - c2 (20 * i + t) / c2 (20 * t + t) * c2 (20 * t + j) else c2 (20 * i + j)) (e4 : ∀ i j, i < 20 → j < 20 → c4 (20 * i + j) = if t < j ∧ t ≤ i then c3 (20 * i + j) - c3 (20 * t + j) / c3 (20 * t + t) * c3 (20 * i + t) else c3 (20 * i + j)) : (∀ i, t < i → i < 20 → c4 (20 * i + t) = 0) ∧ (∀ i, t < i → i < 20 → c4 (20 * t + i) = 0) ∧ c4 (20 * t + t) = c2 (20 * t + t) ∧ (∀ i j, i < t → j < t → c4 (20 * i + j) = c2 (20 * i + j)) ∧ (((c2 (20 * t + t)).toInt.natAbs = 1 ∧ dg_I A0 (wi_w (tb_X c4) (t + 1) (t + 1)) (u + 1) w) ∨ ((c2 (20 * t + t)).toInt.natAbs = 2 ∧ dg_I A0 (wi_w (tb_X c4) (t + 1) (t + 1)) u (w + 1))) := by
  have hin : ∀ i j, t ≤ i → i < 20 → t ≤ j → j < 20 → wi_w (tb_X c2) t t i j = (c2 (20 * i + j)).toInt := fun i j i1 i2 j1 j2 => by rw [wi_in i1 j1, xk_tb i2 j2]
  have htt := hin t t (Nat.le_refl t) ht (Nat.le_refl t) ht
  have L := dg_lead (W := wi_w (tb_X c2) t t) (p := t) (c := t) I.1 (by rw [htt]; exact hl) (fun i j ne => by
    by_cases hi : t ≤ i ∧ i < 20
    · by_cases hj : t ≤ j ∧ j < 20
      · rw [hin i j hi.1 hi.2 hj.1 hj.2] at ne ⊢
        rw [htt]
        exact hm i j hi.1 hi.2 hj.1 hj.2 ne
      · exfalso
        apply ne
        by_cases z : t ≤ i ∧ t ≤ j
        · rw [wi_in z.1 z.2, xk_to (by omega)]
        · exact if_neg z
    · exfalso
      apply ne
      by_cases z : t ≤ i ∧ t ≤ j
      · rw [wi_in z.1 z.2, xk_to (by omega)]
      · exact if_neg z)
  have D := dg_div I.1 L
  have B : ∀ i j, t ≤ i → i < 20 → t ≤ j → j < 20 → -2 ≤ (c2 (20 * i + j)).toInt ∧ (c2 (20 * i + j)).toInt ≤ 2 := fun i j i1 i2 j1 j2 => by
    have := rk_M_e I.1 i j
    rwa [hin i j i1 i2 j1 j2] at this
  -- the factors of rows and columns
  have Q : ∀ i, t ≤ i → i < 20 → ∃ k : Int, (c2 (20 * i + t)).toInt = (c2 (20 * t + t)).toInt * k ∧ -2 ≤ k ∧ k ≤ 2 ∧ (c2 (20 * i + t) / c2 (20 * t + t)).toInt = k := fun i i1 i2 => by
    obtain ⟨k, e, k1, k2⟩ := D i t
    rw [hin i t i1 i2 (Nat.le_refl t) ht, htt] at e
    exact ⟨k, e, k1, k2, xk_ex hl e k1 k2⟩
  have Q2 : ∀ j, t ≤ j → j < 20 → ∃ k : Int, (c2 (20 * t + j)).toInt = (c2 (20 * t + t)).toInt * k ∧ -2 ≤ k ∧ k ≤ 2 ∧ (c2 (20 * t + j) / c2 (20 * t + t)).toInt = k := fun j j1 j2 => by
    obtain ⟨k, e, k1, k2⟩ := D t j
    rw [hin t j (Nat.le_refl t) ht j1 j2, htt] at e
    exact ⟨k, e, k1, k2, xk_ex hl e k1 k2⟩
  have r3 : ∀ j, j < 20 → c3 (20 * t + j) = c2 (20 * t + j) := fun j hj => by rw [e3 t j ht hj, if_neg (by omega)]
  have v3 : ∀ i j, t < i → i < 20 → t ≤ j → j < 20 → ∃ k : Int, (c2 (20 * i + t)).toInt = (c2 (20 * t + t)).toInt * k ∧ (c3 (20 * i + j)).toInt = (c2 (20 * i + j)).toInt - k * (c2 (20 * t + j)).toInt := fun i j i1 i2 j1 j2 => by
    obtain ⟨k, q1, q2, q3, q4⟩ := Q i (by omega) i2
    refine ⟨k, q1, ?_⟩
    have b1 := B i j (by omega) i2 j1 j2
    have b2 := B t j (Nat.le_refl t) ht j1 j2
    rw [e3 i j i2 j2, if_pos ⟨i1, j1⟩, xk_cr b1.1 b1.2 (by omega) (by omega) b2.1 b2.2, q4]
  have z3 : ∀ i, t < i → i < 20 → (c3 (20 * i + t)).toInt = 0 := fun i i1 i2 => by
    obtain ⟨k, q1, q2⟩ := v3 i t i1 i2 (Nat.le_refl t) ht
    rw [q2, q1, Int.mul_comm, Int.sub_self]
  have w4 : ∀ i j, t < i → i < 20 → j < 20 → c4 (20 * i + j) = c3 (20 * i + j) := fun i j i1 i2 j2 => by
    rw [e4 i j i2 j2]
    by_cases q : t < j ∧ t ≤ i
    · rw [if_pos q, xk_z (z3 i i1 i2)]
    · rw [if_neg q]
  have c4t : c4 (20 * t + t) = c2 (20 * t + t) := by rw [e4 t t ht ht, if_neg (by omega), r3 t ht]
  refine ⟨fun i i1 i2 => ?_, fun j j1 j2 => ?_, c4t, fun i j hi hj => ?_, ?_⟩
  · rw [w4 i t i1 i2 ht]
    exact Int32.toInt_inj.mp (by rw [z3 i i1 i2, xd_z0])
  · rw [e4 t j ht j2, if_pos ⟨j1, Nat.le_refl t⟩, r3 j j2, r3 t ht]
    obtain ⟨k, q1, q2, q3, q4⟩ := Q2 j (by omega) j2
    have b1 := B t j (Nat.le_refl t) ht (by omega) j2
    have b2 := B t t (Nat.le_refl t) ht (Nat.le_refl t) ht
    apply Int32.toInt_inj.mp
    rw [xk_cr b1.1 b1.2 (by omega) (by omega) b2.1 b2.2, q4, q1, Int.mul_comm, Int.sub_self, xd_z0]
  · rw [e4 i j (by omega) (by omega), if_neg (by omega), e3 i j (by omega) (by omega), if_neg (by omega)]
  · have hV := wi_V (A := tb_X c2) (B := tb_X c4) (r := t) (c := t) (e := tb_X c2 t t) (fun i j hi hj => by
      by_cases i2 : i < 20
      · by_cases j2 : j < 20
        · obtain ⟨k, q1, q2⟩ := v3 i j hi i2 (by omega) j2
          rw [xk_tb i2 j2, xk_tb ht ht, xk_tb i2 j2, xk_tb i2 ht, xk_tb ht j2, w4 i j hi i2 j2, q2, q1, Int.mul_sub, Int.mul_assoc]
        · rw [xk_to (c := c4) (by omega), xk_to (c := c2) (i := i) (j := j) (by omega), xk_to (c := c2) (i := t) (j := j) (by omega), Int.mul_zero, Int.mul_zero]; rfl
      · rw [xk_to (c := c4) (by omega), xk_to (c := c2) (i := i) (j := j) (by omega), xk_to (c := c2) (i := i) (j := t) (by omega), Int.mul_zero, Int.zero_mul]; rfl)
    have S := dg_step (p := t) (c := t) (V := wi_w (tb_X c4) (t + 1) (t + 1)) I L (fun i j => by
      have := hV i j
      rw [← wi_in (A := tb_X c2) (Nat.le_refl t) (Nat.le_refl t)] at this
      exact this)
    rw [htt] at S
    rcases S with ⟨a, s⟩ | ⟨a, s⟩
    · exact Or.inl ⟨by omega, s⟩
    · exact Or.inr ⟨by omega, s⟩
theorem xk_make {post : SX → Prop} {lev : Int32} {held : Nat → Int64} {place cells : Nat → Int32} (hM : rk_M 2 (tb_X cells)) (hp : ∀ c', rk_R 0 (tb_X cells) (cn_c (xk_n c' 1) 20 + cn_c (xk_n c' 2) 20) → rk_R 2 (tb_X cells) (cn_c (xk_n c' 1) 20) → (∀ i, i < 20 → (c' (20 * i + i)).toInt.natAbs ≤ 2) → post (lev, held, place, c')) : wpX_makeDiagonal post (lev, held, place, cells) := by
  have l : ∀ d t c, t + d = 20 → dg_I (tb_X cells) (wi_w (tb_X c) t t) (cn_c (xk_n c 1) t) (cn_c (xk_n c 2) t) → (∀ i, i < t → (c (20 * i + i)).toInt.natAbs ≤ 2) → wX_makeDiagonal_2 post (d + 1) (nI t) lev held place c := by
    intro d
    induction d with
    | zero =>
      intro t c ht I hd
      have e : t = 20 := by omega
      subst e
      have := dg_zero I (fun i j => by
        by_cases z : 20 ≤ i ∧ 20 ≤ j
        · rw [wi_in z.1 z.2, xk_to (by omega)]
        · exact if_neg z)
      exact br_t xm_ge (hp c this.1 this.2 hd)
    | succ d ih =>
      intro t c ht I hd
      have ht20 : t < 20 := by omega
      refine br_f (xm_lt ht20) ⟨2, ?_⟩
      have B : ∀ i j, t ≤ i → i < 20 → t ≤ j → j < 20 → -2 ≤ (c (20 * i + j)).toInt ∧ (c (20 * i + j)).toInt ≤ 2 := fun i j i1 i2 j1 j2 => by
        have := rk_M_e I.1 i j
        rwa [wi_in i1 j1, xk_tb i2 j2] at this
      refine br_f (nI_ge (a := 0) (b := 1000000) (by omega) (by decide)) (br_t rfl (xd_least ht20 B (fun p q p1 p2 q1 q2 K => ⟨by decide, ?_⟩)))
      rw [xk_p p2 q2]
      refine xm_swapR ht20 p2 (fun c1 e1 => ⟨by decide, ?_⟩)
      rw [xk_c2 p2 q2]
      refine xm_swapC ht20 q2 (fun c2 e2 => ?_)
      have c2v : ∀ i j, i < 20 → j < 20 → c2 (20 * i + j) = c (20 * wi_sw t p i + wi_sw t q j) := fun i j hi hj => by
        rw [e2 i j hi hj, e1 i _ hi ((wi_sw_lt ht20 q2).mpr hj)]
      have hsw : ∀ i j, tb_X c2 i j = tb_X c (wi_sw t p i) (wi_sw t q j) := by
        intro i j
        by_cases hi : i < 20
        · by_cases hj : j < 20
          · rw [xk_tb hi hj, xk_tb ((wi_sw_lt ht20 p2).mpr hi) ((wi_sw_lt ht20 q2).mpr hj), c2v i j hi hj]
          · rw [xk_to (by omega), xk_to]
            right
            have := (wi_sw_lt (i := j) ht20 q2)
            omega
        · rw [xk_to (by omega), xk_to]
          left
          have := (wi_sw_lt (i := i) ht20 p2)
          omega
      have hsw2 := wi_re (r := t) (c := t) (wi_sw t p) (wi_sw t q) (fun i => wi_sw_ge (Nat.le_refl t) p1) (fun j => wi_sw_ge (Nat.le_refl t) q1) hsw
      have I2 := dg_re (wi_sw t p) (wi_sw t q) (wi_sw_sw t p) (wi_sw_sw t q) hsw2 I
      have old : ∀ i, i < t → c2 (20 * i + i) = c (20 * i + i) := fun i hi => by
        rw [c2v i i (by omega) (by omega)]
        have e1 : wi_sw t p i = i := by unfold wi_sw; rw [if_neg (by omega), if_neg (by omega)]
        have e2 : wi_sw t q i = i := by unfold wi_sw; rw [if_neg (by omega), if_neg (by omega)]
        rw [e1, e2]
      have cold : ∀ m, cn_c (xk_n c2 m) t = cn_c (xk_n c m) t := fun m => cn_congr (fun i hi => by unfold xk_n; rw [old i hi])
      -- the end of a turn: the next t
      have fin : ∀ c4 : Nat → Int32, (∀ i, t < i → i < 20 → c4 (20 * i + t) = 0) → (∀ i, t < i → i < 20 → c4 (20 * t + i) = 0) → (∀ i, i < t → c4 (20 * i + i) = c (20 * i + i)) → (c4 (20 * t + t)).toInt.natAbs ≤ 2 → dg_I (tb_X cells) (wi_w (tb_X c4) (t + 1) (t + 1)) (cn_c (xk_n c4 1) (t + 1)) (cn_c (xk_n c4 2) (t + 1)) → wpX_standsAlone (fun r_33 => ∀ x3, x3 = (0 : Int32) + 1 → wX_makeDiagonal_12 post (wX_makeDiagonal_2 post (d + 1)) (nI t) 1 r_33 x3 lev held place c4) (lev, held, place, c4) (nI t) := by
        intro c4 z1 z2 o4 b4 I4
        refine xd_alone ht20 z1 z2 (fun x3 e3 => ?_)
        rw [e3]
        refine br_f (by decide) (br_f (by decide) (fun y ey => ?_))
        rw [ey, nI_1]
        refine ih (t + 1) c4 (by omega) I4 (fun i hi => ?_)
        by_cases e : i = t
        · rw [e]; exact b4
        · rw [o4 i (by omega)]; exact hd i (by omega)
      have hat : c2 (20 * t + t) = c (20 * p + q) := by
        rw [c2v t t ht20 ht20]
        have e1 : wi_sw t p t = p := by unfold wi_sw; rw [if_pos rfl]
        have e2 : wi_sw t q t = q := by unfold wi_sw; rw [if_pos rfl]
        rw [e1, e2]
      rcases K with ⟨ep, eq, Kz⟩ | ⟨Kn, Km⟩
      · -- nothing is left
        have z2 : ∀ i j, t ≤ i → i < 20 → t ≤ j → j < 20 → c2 (20 * i + j) = 0 := fun i j i1 i2 j1 j2 => by
          rw [c2v i j i2 j2]
          exact Int32.toInt_inj.mp (by rw [Kz _ _ ((wi_sw_ge (Nat.le_refl t) p1).mpr i1) ((wi_sw_lt ht20 p2).mpr i2) ((wi_sw_ge (Nat.le_refl t) q1).mpr j1) ((wi_sw_lt ht20 q2).mpr j2), xd_z0])
        have zt := z2 t t (Nat.le_refl t) ht20 (Nat.le_refl t) ht20
        have W0 : ∀ i j, wi_w (tb_X c2) t t i j = 0 := fun i j => by
          by_cases z : t ≤ i ∧ t ≤ j
          · rw [wi_in z.1 z.2]
            by_cases b : i < 20 ∧ j < 20
            · rw [xk_tb b.1 b.2, z2 i j z.1 b.1 z.2 b.2]; rfl
            · exact xk_to (by omega)
          · exact if_neg z
        have W1 : wi_w (tb_X c2) (t + 1) (t + 1) = wi_w (tb_X c2) t t := by
          funext i j
          rw [W0]
          by_cases z : t + 1 ≤ i ∧ t + 1 ≤ j
          · have := W0 i j
            rw [wi_in (by omega) (by omega)] at this
            rw [wi_in z.1 z.2]; exact this
          · exact if_neg z
        refine xd_lrows ht20 (fun _ => ?_) (fun ne => absurd zt ne)
        refine xd_lcols ht20 (fun _ => ?_) (fun ne => absurd zt ne)
        refine fin c2 (fun i i1 i2 => z2 i t (by omega) i2 (Nat.le_refl t) ht20) (fun i i1 i2 => z2 t i (Nat.le_refl t) ht20 (by omega) i2) old (by rw [zt]; decide) ?_
        rw [W1, cn_s, cn_s, cold, cold]
        have n1 : xk_n c2 1 t = false := by unfold xk_n; rw [zt]; decide
        have n2 : xk_n c2 2 t = false := by unfold xk_n; rw [zt]; decide
        rw [n1, n2]
        exact I2
      · have hl : (c2 (20 * t + t)).toInt ≠ 0 := by rw [hat]; exact Kn
        have hl0 : c2 (20 * t + t) ≠ 0 := fun z => by rw [z, xd_z0] at hl; exact hl rfl
        have hm : ∀ i j, t ≤ i → i < 20 → t ≤ j → j < 20 → (c2 (20 * i + j)).toInt ≠ 0 → (c2 (20 * t + t)).toInt.natAbs ≤ (c2 (20 * i + j)).toInt.natAbs := fun i j i1 i2 j1 j2 ne => by
          rw [c2v i j i2 j2] at ne ⊢
          rw [hat]
          exact Km _ _ ((wi_sw_ge (Nat.le_refl t) p1).mpr i1) ((wi_sw_lt ht20 p2).mpr i2) ((wi_sw_ge (Nat.le_refl t) q1).mpr j1) ((wi_sw_lt ht20 q2).mpr j2) ne
        refine xd_lrows ht20 (fun z => absurd z hl0) (fun _ c3 e3 => ?_)
        have c3t : c3 (20 * t + t) = c2 (20 * t + t) := by rw [e3 t t ht20 ht20, if_neg (by omega)]
        refine xd_lcols ht20 (fun z => absurd (c3t.symm.trans z) hl0) (fun _ c4 e4 => ?_)
        obtain ⟨t1, t2, t3, t4, t5⟩ := xk_turn (c := c) ht20 I2 hl hm e3 e4
        have cnew : ∀ m, cn_c (xk_n c4 m) t = cn_c (xk_n c m) t := fun m => by
          rw [← cold m]
          exact cn_congr (fun i hi => by unfold xk_n; rw [t4 i i hi hi])
        refine fin c4 t1 t2 (fun i hi => by rw [t4 i i hi hi, old i hi]) (by rw [t3]; rcases t5 with ⟨a, _⟩ | ⟨a, _⟩ <;> omega) ?_
        rw [cn_s, cn_s, cnew, cnew]
        rcases t5 with ⟨a, s⟩ | ⟨a, s⟩
        · have n1 : xk_n c4 1 t = true := by unfold xk_n; rw [t3, a]; rfl
          have n2 : xk_n c4 2 t = false := by unfold xk_n; rw [t3, a]; rfl
          rw [n1, n2]
          exact s
        · have n1 : xk_n c4 1 t = false := by unfold xk_n; rw [t3, a]; rfl
          have n2 : xk_n c4 2 t = true := by unfold xk_n; rw [t3, a]; rfl
          rw [n1, n2]
          exact s
  have w0 : wi_w (tb_X cells) 0 0 = tb_X cells := by
    funext i j
    exact wi_in (Nat.zero_le i) (Nat.zero_le j)
  refine ⟨21, l 20 0 cells rfl ?_ (fun i hi => by omega)⟩
  rw [w0]
  exact dg_0 hM
end
section
/-! X: rank and product of the diagonal, dimension -/
theorem xv_cases {x : Int32} (h : x.toInt.natAbs ≤ 2) : x = 0 ∨ x = 1 ∨ x = -1 ∨ x = 2 ∨ x = -2 := by
  have e : ∀ y : Int32, x.toInt = y.toInt → x = y := fun y hy => Int32.toInt_inj.mp hy
  have e0 : (0 : Int32).toInt = 0 := by decide
  have e1 : (1 : Int32).toInt = 1 := by decide
  have e2 : (-1 : Int32).toInt = -1 := by decide
  have e3 : (2 : Int32).toInt = 2 := by decide
  have e4 : (-2 : Int32).toInt = -2 := by decide
  rcases (show x.toInt = 0 ∨ x.toInt = 1 ∨ x.toInt = -1 ∨ x.toInt = 2 ∨ x.toInt = -2 by omega) with q | q | q | q | q
  · exact Or.inl (e 0 (by rw [q, e0]))
  · exact Or.inr (Or.inl (e 1 (by rw [q, e1])))
  · exact Or.inr (Or.inr (Or.inl (e (-1) (by rw [q, e2]))))
  · exact Or.inr (Or.inr (Or.inr (Or.inl (e 2 (by rw [q, e3])))))
  · exact Or.inr (Or.inr (Or.inr (Or.inr (e (-2) (by rw [q, e4])))))
def xv_f (pp : Nat) (c : Nat → Int32) (i : Nat) : Bool := xk_n c 1 i || (xk_n c 2 i && decide (pp ≠ 2))
theorem xv_rank {post : Int32 → Prop} {lev : Int32} {held : Nat → Int64} {place cells : Nat → Int32} {pp : Nat} (hpp : pp = 0 ∨ pp = 2 ∨ pp = 3 ∨ pp = 5) (hd : ∀ i, i < 20 → (cells (20 * i + i)).toInt.natAbs ≤ 2) (hp : post (nI (cn_c (xv_f pp cells) 20))) : wpX_diagonalRank post (lev, held, place, cells) (nI pp) := by
  have l : ∀ d t, t + d = 20 → wX_diagonalRank_4 post (nI pp) lev held place cells (d + 1) (nI (cn_c (xv_f pp cells) t)) (nI t) := by
    intro d
    induction d with
    | zero =>
      intro t ht
      have e : t = 20 := by omega
      subst e
      exact br_t xm_ge hp
    | succ d ih =>
      intro t ht
      have ht20 : t < 20 := by omega
      have hn := ih (t + 1) (by omega)
      rw [cn_s] at hn
      refine br_f (xm_lt ht20) ?_
      rw [xt_ix, xt_cl ht20 ht20]
      refine ⟨xt_vi ht20 ht20, fun x ex => ?_⟩
      have no : xv_f pp cells t = false → ∀ y, y = nI t + 1 → wX_diagonalRank_4 post (nI pp) lev held place cells (d + 1) (nI (cn_c (xv_f pp cells) t)) y := by
        intro hf y ey
        rw [hf] at hn
        rw [ey, nI_1]
        exact hn
      have yes : xv_f pp cells t = true → ∀ z, z = nI (cn_c (xv_f pp cells) t) + 1 → ∀ y, y = nI t + 1 → wX_diagonalRank_4 post (nI pp) lev held place cells (d + 1) z y := by
        intro hf z ez y ey
        rw [hf] at hn
        rw [ey, ez, nI_1, nI_1]
        exact hn
      have hv := xv_cases (hd t ht20)
      rw [← ex] at hv
      have ev : xv_f pp cells t = (decide (x.toInt.natAbs = 1) || (decide (x.toInt.natAbs = 2) && decide (pp ≠ 2))) := by rw [ex]; rfl
      rw [ev] at no yes
      rcases hpp with e | e | e | e <;> subst e <;> rcases hv with q | q | q | q | q <;> subst q <;> first
        | exact br_t (by decide) (no (by decide))
        | exact br_f (by decide) (br_t (by decide) (yes (by decide)))
        | exact br_f (by decide) (br_f (by decide) ⟨by decide, br_t (by decide) (no (by decide))⟩)
        | exact br_f (by decide) (br_f (by decide) ⟨by decide, br_f (by decide) (yes (by decide))⟩)
  exact ⟨21, l 20 0 rfl⟩
theorem xv_prod {post : Int32 → Prop} {lev : Int32} {held : Nat → Int64} {place cells : Nat → Int32} (hd : ∀ i, i < 20 → (cells (20 * i + i)).toInt.natAbs ≤ 2) (hp : post (nI (2 ^ cn_c (xk_n cells 2) 20))) : wpX_diagonalProduct post (lev, held, place, cells) := by
  have l : ∀ d t, t + d = 20 → wX_diagonalProduct_4 post lev held place cells (d + 1) (nI (2 ^ cn_c (xk_n cells 2) t)) (nI t) := by
    intro d
    induction d with
    | zero =>
      intro t ht
      have e : t = 20 := by omega
      subst e
      exact br_t xm_ge hp
    | succ d ih =>
      intro t ht
      have ht20 : t < 20 := by omega
      have hn := ih (t + 1) (by omega)
      rw [cn_s] at hn
      refine br_f (xm_lt ht20) ?_
      rw [xt_ix, xt_cl ht20 ht20]
      refine ⟨xt_vi ht20 ht20, fun x ex => ?_⟩
      have hv := xv_cases (hd t ht20)
      rw [← ex] at hv
      have ev : xk_n cells 2 t = decide (x.toInt.natAbs = 2) := by rw [ex]; rfl
      rw [ev] at hn
      have m1 : ∀ a : Int32, a * 1 = a := fun a => by grind
      have m2 : ∀ n : Nat, nI (2 ^ n) * 2 = nI (2 ^ (n + 1)) := fun n => by rw [Nat.pow_succ]; exact (Int32.ofNat_mul (2 ^ n) 2).symm
      rcases hv with q | q | q | q | q <;> subst q
      · refine br_t rfl (fun y ey => ?_)
        rw [ey, nI_1]
        exact hn
      · refine br_f (by decide) (br_t (by decide) (fun z ez y ey => ?_))
        rw [ey, ez, nI_1, m1]
        exact hn
      · refine br_f (by decide) (br_f (by decide) (fun z ez y ey => ?_))
        rw [ey, ez, nI_1, show -(-1 : Int32) = 1 from by decide, m1]
        exact hn
      · refine br_f (by decide) (br_t (by decide) (fun z ez y ey => ?_))
        rw [ey, ez, nI_1, m2]
        exact hn
      · refine br_f (by decide) (br_f (by decide) (fun z ez y ey => ?_))
        rw [ey, ez, nI_1, show -(-2 : Int32) = 2 from by decide, m2]
        exact hn
  exact ⟨21, l 20 0 rfl⟩
theorem xv_or {f g h : Nat → Bool} (hh : ∀ i, h i = (f i || g i)) (hd : ∀ i, f i = true → g i = true → False) : ∀ n, cn_c h n = cn_c f n + cn_c g n := by
  intro n
  induction n with
  | zero => rfl
  | succ n ih =>
    rw [cn_s, cn_s, cn_s, ih, hh]
    cases hf : f n <;> cases hg : g n
    · rfl
    · simp; omega
    · simp; omega
    · exact absurd (hd n hf hg) id
theorem xv_cnt (pp : Nat) (c : Nat → Int32) : cn_c (xv_f pp c) 20 = cn_c (xk_n c 1) 20 + (if pp = 2 then 0 else cn_c (xk_n c 2) 20) := by
  have e0 : ∀ n, cn_c (fun _ => false) n = 0 := by
    intro n
    induction n with
    | zero => rfl
    | succ n ih => rw [cn_s, ih]; rfl
  rw [xv_or (h := xv_f pp c) (f := xk_n c 1) (g := fun i => xk_n c 2 i && decide (pp ≠ 2)) (fun i => rfl) (fun i a b => by
    unfold xk_n at a b
    rw [Bool.and_eq_true, decide_eq_true_iff] at b
    rw [decide_eq_true_iff] at a
    omega)]
  congr 1
  by_cases h : pp = 2
  · rw [if_pos h, cn_congr (g := fun _ => false) (fun i _ => by simp [h]), e0]
  · rw [if_neg h, cn_congr (g := xk_n c 2) (fun i _ => by simp [h])]
theorem xv_en (s t : Nat) : -1 ≤ ed_en s t ∧ ed_en s t ≤ 1 := by
  unfold ed_en
  split
  · rcases dt_sg_or (ed_pc (t % (t ^^^ s))) with e | e <;> rw [e] <;> omega
  · omega
theorem xv_S (S : Nat → Bool) (k s t : Nat) : -1 ≤ ed_S S k s t ∧ ed_S S k s t ≤ 1 := by
  unfold ed_S ed_D
  have := xv_en s t
  split
  · split <;> omega
  · omega
theorem xv_edges {post : Int32 → SX → Prop} {lev : Int32} {held : Nat → Int64} {place cells : Nat → Int32} {S : Nat → Bool} {k pp : Nat} (hlev : lev = 0 ∨ lev = 1) (hpp : pp = 0 ∨ pp = 2 ∨ pp = 3 ∨ pp = 5) (h : tb_hX S k cells) (hp : ∀ r c', rk_R (pp : Int) (ed_S S k) r → post (nI r) (lev, held, place, c')) : wpX_rankOfEdges post (lev, held, place, cells) (nI pp) := by
  have hM := tb_X_M h
  have hb : ∀ i j, i < 20 → j < 20 → -1 ≤ (cells (20 * i + j)).toInt ∧ (cells (20 * i + j)).toInt ≤ 1 := fun i j hi hj => by
    rw [h i j hi hj]; exact xv_S _ _ _ _
  have md : ∀ (p : Int32) (q : Int), p.toInt = q → rk_P q → 2 ≤ q → q ≤ 2000 → (∀ r, rk_R q (tb_X cells) r → rk_R (pp : Int) (tb_X cells) r) → wX_rankOfEdges_29 post p lev held place cells := by
    intro p q e1 e2 e3 e4 e5
    refine xm_rank e1 e2 e3 e4 (fun i j hi hj => ?_) (fun r c' _ hr => hp r c' (tb_X_R h (e5 r hr)))
    have := hb i j hi hj
    omega
  rcases hlev with e | e
  · subst e
    refine br_t rfl (xk_make hM (fun c' r0 r2 hd => ?_))
    refine xv_rank hpp hd (hp _ c' (tb_X_R h ?_))
    rw [xv_cnt]
    rcases hpp with e | e | e | e
    · subst e; exact r0
    · subst e; exact r2
    · subst e; exact wi_0q (by decide) hM r0
    · subst e; exact wi_0q (by decide) hM r0
  · subst e
    refine br_f (by decide) ?_
    rcases hpp with e | e | e | e
    · subst e
      exact br_t rfl (md 1031 1031 (by decide) li_p1031 (by decide) (by decide) (fun r hr => wi_q0 (by decide) hM hr))
    · subst e
      exact br_f (by decide) (md (nI 2) 2 (by decide) li_p2 (by decide) (by decide) (fun r hr => hr))
    · subst e
      exact br_f (by decide) (md (nI 3) 3 (by decide) li_p3 (by decide) (by decide) (fun r hr => hr))
    · subst e
      exact br_f (by decide) (md (nI 5) 5 (by decide) li_p5 (by decide) (by decide) (fun r hr => hr))
theorem xv_dim {post : Int32 → SX → Prop} {lev : Int32} {held : Nat → Int64} {place cells : Nat → Int32} {x : Int64} {k pp : Nat} (hlev : lev = 0 ∨ lev = 1) (hpl : ∀ s, 1 ≤ s → s < 64 → place s = nI (st_pl s)) (hk : k < 6) (hpp : pp = 0 ∨ pp = 2 ∨ pp = 3 ∨ pp = 5) (hp : ∀ r1 r2 c', rk_R (pp : Int) (ed_S (mk_b x) k) r1 → rk_R (pp : Int) (ed_S (mk_b x) (k + 1)) r2 → post ((nI (cn_c (xs_dg x (k + 1)) 64) - nI r1) - nI r2) (lev, held, place, c')) : wpX_dimension post (lev, held, place, cells) x (nI k) (nI pp) := by
  unfold wpX_dimension
  dsimp only
  rw [nI_1]
  refine xs_ofDegree (by omega) (fun w hw => ?_)
  refine xt_write hpl (by omega) (fun c1 h1 => ?_)
  refine xv_edges hlev hpp h1 (fun r1 c2 R1 => ?_)
  refine xt_write hpl (by omega) (fun c3 h3 => ?_)
  refine xv_edges hlev hpp h3 (fun r2 c4 R2 => ?_)
  refine xs_size ?_
  rw [cn_congr hw]
  exact hp r1 r2 c4 R1 R2
end
section
/-! the reference writes the edges -/
theorem yt_bit : ∀ s, s < 64 → ∀ v, v < 6 → nI (ed_pc (s % 2 ^ v)) + ((nI s >>> (nI v &&& 31)) &&& 1) = nI (ed_pc (s % 2 ^ (v + 1))) := by decide +kernel
theorem yt_par : ∀ n, n < 7 → (nI n - nI n / 2 * 2 = 0 ↔ n % 2 = 0) := by decide +kernel
theorem yt_factor {post : Int32 → Prop} {u : SY} {t v : Nat} (ht : t < 64) (hv : v ≤ 6) (hp : post (xt_sg (ed_pc (t % 2 ^ v)))) : wpY_factor post u (nI t) (nI v) := by
  obtain ⟨rw, cl, has, now, pl, ta, si⟩ := u
  have l : ∀ d i, i + d = v → wY_factor_5 post (nI t) (nI v) rw cl has now pl ta si (d + 1) (nI (ed_pc (t % 2 ^ i))) (nI i) := by
    intro d
    induction d with
    | zero =>
      intro i hi
      have e : i = v := by omega
      subst e
      have hle := ed_pc_le (t % 2 ^ i)
      refine br_t (nI_le (Nat.le_refl i) (by omega)) ⟨by decide, ?_⟩
      by_cases e : ed_pc (t % 2 ^ i) % 2 = 0
      · refine br_t ((yt_par _ (by omega)).mpr e) ?_
        unfold xt_sg at hp
        rw [if_pos e] at hp
        exact hp
      · refine br_f (fun z => e ((yt_par _ (by omega)).mp z)) ?_
        unfold xt_sg at hp
        rw [if_neg e] at hp
        exact hp
    | succ d ih =>
      intro i hi
      refine br_f (nI_ge (by omega) (by omega)) (fun y ey z ez => ?_)
      rw [ey, ez, yt_bit t ht i (by omega), nI_1]
      exact ih (i + 1) (by omega)
  have := l v 0 (by omega)
  rw [show t % 2 ^ 0 = 0 from Nat.mod_one t] at this
  exact ⟨v + 1, this⟩
theorem yt_part : ∀ v, v < 6 → ∀ t, t < 64 → nI t &&& (nI (2 ^ v) ^^^ (-1)) = nI (if t.testBit v = true then t ^^^ 2 ^ v else t) := by decide +kernel
theorem yt_63 : ∀ p, p < 64 → nI p &&& 63 = nI p := by decide +kernel
theorem yt_ne : ∀ v, v < 6 → ∀ t, t < 64 → t.testBit v = true → t ^^^ 2 ^ v ≠ t := by decide +kernel
theorem yt_ix (a b : Nat) : (20 : Int32) * nI a + nI b = nI (20 * a + b) := by
  show nI 20 * nI a + nI b = _
  rw [show nI 20 * nI a = nI (20 * a) from (Int32.ofNat_mul 20 a).symm, nI_add]
theorem yt_sgL : ∀ n, n < 7 → (xt_sg n).toInt64.toInt = dt_sg n := by decide +kernel
/-- now holds the family S -/
def yt_N (now : Nat → Int32) (S : Nat → Bool) : Prop := ∀ s, 1 ≤ s → s < 64 → now s = if S s = true then 1 else 0
theorem yt_ask {now : Nat → Int32} {S : Nat → Bool} {s : Nat} {A B : Prop} (h : yt_N now S) (h1 : 1 ≤ s) (hs : s < 64) (hf : S s = false → A) (ht : S s = true → B) : vp_in (nI s) 64 ∧ ((now (nI s).toNatClampNeg = 0 → A) ∧ (¬ now (nI s).toNatClampNeg = 0 → B)) := by
  refine ⟨vp_in_nI hs (by decide), ?_⟩
  rw [xs_cl (by omega), h s h1 hs]
  cases hb : S s
  · exact br_t rfl (hf hb)
  · exact br_f (by decide) (ht hb)
theorem yt_selne {f : Nat → Bool} {i p : Nat} (hp : p < 64) (hi : i ≠ cn_c f p) : cn_sel f i 64 64 ≠ p := by
  intro z
  by_cases h : i < cn_c f 64
  · have := (cn_sel_ok (d := 64) h).2.1
    rw [z] at this
    exact hi this.symm
  · rw [cn_sel_no (by omega)] at z
    omega
theorem yt_col {post : SY → Prop} {R j0 : Nat} {has now pl si : Nat → Int32} {ta : Nat → Int64} {S : Nat → Bool} {k t : Nat} (hN : yt_N now S) (hk : 1 ≤ k) (t1 : 1 ≤ t) (ht : t < 64) (htk : ed_pc t = k + 1) (hj0 : j0 < 20) (hpl : ∀ s, s < 64 → tb_r S k s = true → pl s = nI (cn_c (tb_r S k) s)) (h0 : ∀ i, i < 20 → (ta (20 * i + j0)).toInt = 0) (hp : ∀ ta', (∀ i j, i < 20 → j < 20 → j ≠ j0 → ta' (20 * i + j) = ta (20 * i + j)) → (∀ i, i < 20 → xt_G S t 6 (cn_sel (tb_r S k) i 64 64) (ta' (20 * i + j0)).toInt) → post (nI R, nI j0, has, now, pl, ta', si)) : wpY_addColumn post (nI R, nI j0, has, now, pl, ta, si) (nI t) := by
  have R20 := tb_R20 S k
  have l : ∀ d v c, v + d = 6 → (∀ i j, i < 20 → j < 20 → j ≠ j0 → c (20 * i + j) = ta (20 * i + j)) → (∀ i, i < 20 → xt_G S t v (cn_sel (tb_r S k) i 64 64) (c (20 * i + j0)).toInt) → wY_addColumn_2 post (nI t) (nI R) (nI j0) (d + 1) (nI v) has now pl c si := by
    intro d
    induction d with
    | zero =>
      intro v c hv h1 h2
      have e : v = 6 := by omega
      subst e
      exact br_t ys_ge6 (hp c h1 h2)
    | succ d ih =>
      intro v c hv h1 h2
      have hv6 : v < 6 := by omega
      obtain ⟨e1, e2, e3⟩ := pi_v v hv6
      have hple := ed_pc_le (t % 2 ^ v)
      refine br_f (ys_lt6 hv6) (fun y ey => ?_)
      rw [e1, yt_part v hv6 t ht] at ey
      by_cases hb : t.testBit v = true
      · rw [if_pos hb] at ey
        obtain ⟨g1, g2, g3, g4⟩ := xt_g6a t ht v hv6 hb
        have hne := yt_ne v hv6 t ht hb
        have p1 : 1 ≤ t ^^^ 2 ^ v := by
          apply Classical.byContradiction
          intro z
          have e : t ^^^ 2 ^ v = 0 := by omega
          rw [e, htk] at g2
          have : ed_pc 0 = 0 := rfl
          omega
        have same : (∀ i, i < 20 → xt_G S t (v + 1) (cn_sel (tb_r S k) i 64 64) (c (20 * i + j0)).toInt) → wY_addColumn_2 post (nI t) (nI R) (nI j0) (d + 1) (nI (v + 1)) has now pl c si := fun z => ih (v + 1) c (by omega) h1 z
        refine br_f (fun z => hne ((nI_eq (by omega) (by omega)).mp (ey.symm.trans z))) ?_
        rw [ey, yt_63 _ g3]
        refine yt_ask hN p1 g3 (fun hS => ?_) (fun hS => ⟨vp_in_nI g3 (by decide), ?_⟩)
        · intro y2 ey2
          rw [ey2, nI_1]
          refine same (fun i hi => ?_)
          rcases h2 i hi with ⟨a, b, c⟩ | ⟨a, c⟩
          · exact Or.inl ⟨a, xt_gs.mpr (Or.inl b), c⟩
          · refine Or.inr ⟨fun z => ?_, c⟩
            rcases xt_gs.mp z.2 with q | q
            · exact a ⟨z.1, q⟩
            · have := z.1
              rw [q.2, hS] at this
              exact absurd this (by decide)
        · have hr : tb_r S k (t ^^^ 2 ^ v) = true := tb_r_ok.mpr ⟨p1, hS, by omega⟩
          have hlt := cn_lt g3 hr
          refine yt_factor ht (by omega) ?_
          rw [xs_cl (show t ^^^ 2 ^ v < 1000 by omega), hpl _ g3 hr, yt_ix, xt_cl (by omega) hj0]
          refine ⟨xt_vi (by omega) hj0, fun y3 ey3 y4 ey4 => ?_⟩
          rw [ey3, ey4, nI_1]
          refine ih (v + 1) _ (by omega) (fun i j hi hj hne => ?_) (fun i hi => ?_)
          · rw [xs_uLn (by omega)]; exact h1 i j hi hj hne
          · by_cases e : i = cn_c (tb_r S k) (t ^^^ 2 ^ v)
            · subst e
              rw [xs_uLs, cn_sel_at g3 hr rfl]
              refine Or.inl ⟨hS, xt_gs.mpr (Or.inr ⟨hb, rfl⟩), ?_⟩
              rw [yt_sgL _ (by omega), g4]
            · rw [xs_uLn (by omega)]
              have hne2 := yt_selne g3 e
              rcases h2 i hi with ⟨a, b, c⟩ | ⟨a, c⟩
              · exact Or.inl ⟨a, xt_gs.mpr (Or.inl b), c⟩
              · refine Or.inr ⟨fun z => ?_, c⟩
                rcases xt_gs.mp z.2 with q | q
                · exact a ⟨z.1, q⟩
                · exact hne2 q.2
      · rw [if_neg hb] at ey
        refine br_t ey (fun y2 ey2 => ?_)
        rw [ey2, nI_1]
        refine ih (v + 1) c (by omega) h1 (fun i hi => ?_)
        rcases h2 i hi with ⟨a, b, c⟩ | ⟨a, c⟩
        · exact Or.inl ⟨a, xt_gs.mpr (Or.inl b), c⟩
        · refine Or.inr ⟨fun z => ?_, c⟩
          rcases xt_gs.mp z.2 with q | q
          · exact a ⟨z.1, q⟩
          · exact hb q.1
  exact ⟨7, l 6 0 ta rfl (fun _ _ _ _ _ => rfl) (fun i hi => Or.inr ⟨fun z => xt_g0 z.2, h0 i hi⟩)⟩
/-- what the table is good for -/
def yt_ok (S : Nat → Bool) (k R C : Nat) (ta : Nat → Int64) : Prop := R ≤ 20 ∧ C ≤ 20 ∧ (∀ q r, rk_R q (tb_Y R C ta) r → rk_R q (ed_S S k) r) ∧ rk_M 2 (tb_Y R C ta) ∧ ∀ i j, i < 20 → j < 20 → -1 ≤ (ta (20 * i + j)).toInt ∧ (ta (20 * i + j)).toInt ≤ 1
theorem yt_l0 : (0 : Int64).toInt = 0 := by decide
theorem yt_make {post : SY → Prop} {rw cl : Int32} {has now pl si : Nat → Int32} {ta : Nat → Int64} {S : Nat → Bool} {k : Nat} (hk : k ≤ 5) (hN : yt_N now S) (hp : ∀ R C pl' ta', yt_ok S k R C ta' → (∀ i j, i < 20 → j < 20 → ¬ (i < R ∧ j < C) → ta' (20 * i + j) = 0) → post (nI R, nI C, has, now, pl', ta', si)) : wpY_makeTable post (rw, cl, has, now, pl, ta, si) (nI k) := by
  have R20 := tb_R20 S k
  have C20 := tb_R20 S (k + 1)
  -- the columns
  have l3 : 1 ≤ k → ∀ pl', (∀ s, s < 64 → tb_r S k s = true → pl' s = nI (cn_c (tb_r S k) s)) → ∀ d s c, s + d = 64 → 1 ≤ s → (∀ i j, i < 20 → j < 20 → (c (20 * i + j)).toInt = if j < cn_c (tb_r S (k + 1)) s then ed_S S k (cn_sel (tb_r S k) i 64 64) (cn_sel (tb_r S (k + 1)) j 64 64) else 0) → wY_makeTable_88 post (nI k) (d + 1) (nI s) (nI (cn_c (tb_r S k) 64)) (nI (cn_c (tb_r S (k + 1)) s)) has now pl' c si := by
    intro hk1 pl' hpl d
    induction d with
    | zero =>
      intro s c hs _ h
      have e : s = 64 := by omega
      subst e
      have hY : tb_hY S k (cn_c (tb_r S k) 64) (cn_c (tb_r S (k + 1)) 64) c := ⟨rfl, rfl, fun i j hi hj => by rw [h i j (by omega) (by omega), if_pos hj]⟩
      refine br_t ys_ge64 (hp _ _ pl' c ⟨R20, C20, fun q r z => tb_Y_R hY z, tb_Y_M hY, fun i j hi hj => ?_⟩ (fun i j hi hj z => ?_))
      · rw [h i j hi hj]
        split
        · exact xv_S _ _ _ _
        · omega
      · apply Int64.toInt_inj.mp
        rw [h i j hi hj, yt_l0]
        by_cases q : j < cn_c (tb_r S (k + 1)) 64
        · rw [if_pos q, cn_sel_no (f := tb_r S k) (by omega), ed_S_out (Or.inl (Nat.le_refl 64))]
        · rw [if_neg q]
    | succ d ih =>
      intro s c hs h1 h
      have hs64 : s < 64 := by omega
      have hn := fun c => ih (s + 1) c (by omega) (by omega)
      have hpc := ed_pc_le s
      have stay : tb_r S (k + 1) s = false → wY_makeTable_88 post (nI k) (d + 1) (nI (s + 1)) (nI (cn_c (tb_r S k) 64)) (nI (cn_c (tb_r S (k + 1)) s)) has now pl' c si := by
        intro hf
        have := hn c
        rw [cn_s, hf] at this
        exact this h
      refine br_f (ys_lt64 hs64) (yt_ask hN h1 hs64 (fun hS => ?_) (fun hS => ys_degree hs64 ?_))
      · intro y ey
        rw [ey, nI_1]
        exact stay (by unfold tb_r; simp [hS])
      · by_cases e : ed_pc s = k + 1
        · refine br_t ((ys_dk _ (by omega) k (by omega)).mpr e) (br_f (nI_nle (by omega) (by omega)) ?_)
          have hr : tb_r S (k + 1) s = true := tb_r_ok.mpr ⟨h1, hS, e⟩
          have hlt := cn_lt hs64 hr
          refine yt_col hN hk1 h1 hs64 e (by omega) hpl (fun i hi => ?_) (fun c' c1 c2 => ?_)
          · rw [h i _ hi (by omega), if_neg (by omega)]
          · intro y ey z ez
            have := hn c'
            rw [cn_s, hr] at this
            rw [ey, ez, nI_1, nI_1]
            refine this (fun i j hi hj => ?_)
            show _ = if j < cn_c (tb_r S (k + 1)) s + 1 then _ else _
            by_cases ej : j = cn_c (tb_r S (k + 1)) s
            · subst ej
              rw [if_pos (by omega), cn_sel_at hs64 hr rfl]
              by_cases hsel : cn_sel (tb_r S k) i 64 64 < 64
              · exact xt_SD hk1 hsel hs64 e hS (c2 i hi)
              · rw [ed_S_out (Or.inl (by omega))]
                rcases c2 i hi with ⟨a, b, q⟩ | ⟨a, q⟩
                · exfalso
                  obtain ⟨u, u1, u2, u3⟩ := b
                  have := xt_g6a s hs64 u u1 u2
                  omega
                · exact q
            · rw [c1 i j hi hj ej, h i j hi hj]
              by_cases q : j < cn_c (tb_r S (k + 1)) s
              · rw [if_pos q, if_pos (by omega)]
              · rw [if_neg q, if_neg (by omega)]
        · refine br_f (fun z => e ((ys_dk _ (by omega) k (by omega)).mp z)) (fun y ey => ?_)
          rw [ey, nI_1]
          exact stay (by unfold tb_r; simp [e])
  -- no columns at all for k = 0
  have l3z : k = 0 → ∀ pl' c, (∀ i j, i < 20 → j < 20 → c (20 * i + j) = 0) → ∀ d s, s + d = 64 → 1 ≤ s → wY_makeTable_88 post (nI k) (d + 1) (nI s) (nI 0) (nI 0) has now pl' c si := by
    intro k0 pl' c hz d
    induction d with
    | zero =>
      intro s hs _
      have e : s = 64 := by omega
      subst e
      have t0 : ∀ i j, tb_Y 0 0 c i j = 0 := fun i j => by unfold tb_Y; rw [if_neg (by omega)]
      have s0 : ∀ i j, ed_S S k i j = 0 := fun i j => by
        unfold ed_S ed_D
        rw [if_neg (show ¬ (i < 64 ∧ j < 64 ∧ 1 ≤ k ∧ ed_pc j = k + 1) by omega)]
        split <;> rfl
      refine br_t ys_ge64 (hp 0 0 pl' c ⟨by omega, by omega, fun q r z => ?_, ?_, fun i j hi hj => ?_⟩ (fun i j hi hj _ => hz i j hi hj))
      · exact rk_R_re (fun i => i) (fun j => j) (fun i => i) (fun j => j) (fun i j => by rw [t0, s0]) (fun i j => by rw [t0, s0]) z
      · rw [show tb_Y 0 0 c = fun _ _ => 0 from funext fun i => funext fun j => t0 i j]
        exact ce_le (by decide) ce_nil
      · rw [hz i j hi hj, yt_l0]; omega
    | succ d ih =>
      intro s hs h1
      have hs64 : s < 64 := by omega
      have hn := ih (s + 1) (by omega) (by omega)
      refine br_f (ys_lt64 hs64) (yt_ask hN h1 hs64 (fun hS => ?_) (fun hS => ys_degree hs64 ?_))
      · intro y ey
        rw [ey, nI_1]; exact hn
      · refine br_c (fun _ => br_t (by subst k0; exact nI_le (a := 0) (b := 0) (by omega) (by decide)) (fun y ey => ?_)) (fun _ y ey => ?_)
        · rw [ey, nI_1]; exact hn
        · rw [ey, nI_1]; exact hn
  -- the rows
  have l2 : ∀ c, (∀ i j, i < 20 → j < 20 → c (20 * i + j) = 0) → ∀ d s pl', s + d = 64 → 1 ≤ s → (∀ t, t < s → tb_r S k t = true → pl' t = nI (cn_c (tb_r S k) t)) → wY_makeTable_34 post (nI k) (nI 0) (d + 1) (nI s) (nI (cn_c (tb_r S k) s)) has now pl' c si := by
    intro c hz d
    induction d with
    | zero =>
      intro s pl' hs _ h
      have e : s = 64 := by omega
      subst e
      refine br_t ys_ge64 ?_
      by_cases hk1 : 1 ≤ k
      · refine ⟨64, ?_⟩
        have := l3 hk1 pl' h 63 1 c rfl (by omega) (fun i j hi hj => by
          rw [hz i j hi hj, if_neg]
          · rfl
          · show ¬ j < cn_c (tb_r S (k + 1)) 1
            rw [cn_s, show tb_r S (k + 1) 0 = false from rfl]
            show ¬ j < 0 + 0
            omega)
        rw [show cn_c (tb_r S (k + 1)) 1 = 0 by rw [cn_s]; rfl] at this
        exact this
      · have k0 : k = 0 := by omega
        have e0 : cn_c (tb_r S k) 64 = 0 := by
          have : cn_c (tb_r S k) 64 ≤ cn_c (fun _ => false) 64 := cn_imp (fun i hi z => by
            obtain ⟨a, _, b⟩ := tb_r_ok.mp z
            have := xs_pc1 i hi a
            omega)
          have e : cn_c (fun _ => false) 64 = 0 := by decide
          omega
        rw [e0]
        exact ⟨64, l3z k0 pl' c hz 63 1 rfl (by omega)⟩
    | succ d ih =>
      intro s pl' hs h1 h
      have hs64 : s < 64 := by omega
      have hpc := ed_pc_le s
      have stay : tb_r S k s = false → wY_makeTable_34 post (nI k) (nI 0) (d + 1) (nI (s + 1)) (nI (cn_c (tb_r S k) s)) has now pl' c si := by
        intro hf
        have := ih (s + 1) pl' (by omega) (by omega)
        rw [cn_s, hf] at this
        refine this (fun t t1 t2 => ?_)
        by_cases e : t = s
        · rw [e, hf] at t2; exact absurd t2 (by decide)
        · exact h t (by omega) t2
      refine br_f (ys_lt64 hs64) (yt_ask hN h1 hs64 (fun hS => ?_) (fun hS => ys_degree hs64 ?_))
      · intro y ey
        rw [ey, nI_1]
        exact stay (by unfold tb_r; simp [hS])
      · by_cases e : ed_pc s = k
        · have hr : tb_r S k s = true := tb_r_ok.mpr ⟨h1, hS, e⟩
          refine br_t ((ys_dk1 _ (by omega) k (by omega)).mpr e) ⟨vp_in_nI hs64 (by decide), fun y ey z ez w ew => ?_⟩
          have := ih (s + 1) y (by omega) (by omega)
          rw [cn_s, hr] at this
          rw [ez, ew, nI_1, nI_1]
          refine this (fun t t1 t2 => ?_)
          rw [ey, xs_cl (by omega)]
          by_cases e : t = s
          · subst e; rw [xs_us]
          · rw [xs_un e]; exact h t (by omega) t2
        · refine br_f (fun z => e ((ys_dk1 _ (by omega) k (by omega)).mp z)) (fun y ey => ?_)
          rw [ey, nI_1]
          exact stay (by unfold tb_r; simp [e])
  have l1 : ∀ d i c, i + d = 400 → (∀ j, j < i → c j = 0) → wY_makeTable_12 post (nI k) 0 0 (d + 1) (nI i) has now pl c si := by
    intro d
    induction d with
    | zero =>
      intro i c hi h
      have e : i = 400 := by omega
      subst e
      refine br_t (nI_le (a := 400) (b := 400) (by omega) (by decide)) ⟨64, ?_⟩
      have := l2 c (fun i j hi hj => h _ (by omega)) 63 1 pl rfl (by omega) (fun t t1 t2 => by
        have e : t = 0 := by omega
        rw [e] at t2
        exact absurd (tb_r_ok.mp t2).1 (by omega))
      rw [show cn_c (tb_r S k) 1 = 0 by rw [cn_s]; rfl] at this
      exact this
    | succ d ih =>
      intro i c hi h
      refine br_f (nI_ge (b := 400) (by omega) (by decide)) ⟨vp_in_nI (by omega) (by decide), fun y ey z ez => ?_⟩
      rw [ey, ez, nI_1, xs_cl (by omega)]
      refine ih (i + 1) _ (by omega) (fun j hj => ?_)
      by_cases e : j = i
      · subst e; rw [xs_uLs]
      · rw [xs_uLn e]; exact h j (by omega)
  exact ⟨401, l1 400 0 ta rfl (fun j hj => by omega)⟩
end
