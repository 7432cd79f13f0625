/-! finite sums of whole numbers -/
def dt_sum : Nat → (Nat → Int) → Int
  | 0, _ => 0
  | n + 1, f => dt_sum n f + f n
theorem dt_sum_s (n : Nat) (f : Nat → Int) : dt_sum (n + 1) f = dt_sum n f + f n := rfl
theorem dt_sum_congr {n : Nat} {f g : Nat → Int} (h : ∀ k, k < n → f k = g k) : dt_sum n f = dt_sum n g := by
  induction n with
  | zero => rfl
  | succ n ih => rw [dt_sum_s, dt_sum_s, ih (fun k hk => h k (by omega)), h n (by omega)]
theorem dt_sum_add (n : Nat) (f g : Nat → Int) : dt_sum n (fun k => f k + g k) = dt_sum n f + dt_sum n g := by
  induction n with
  | zero => rfl
  | succ n ih => rw [dt_sum_s, dt_sum_s, dt_sum_s, ih]; omega
theorem dt_sum_mul (n : Nat) (c : Int) (f : Nat → Int) : dt_sum n (fun k => c * f k) = c * dt_sum n f := by
  induction n with
  | zero => exact (Int.mul_zero c).symm
  | succ n ih => rw [dt_sum_s, dt_sum_s, ih, Int.mul_add]
theorem dt_sum_neg (n : Nat) (f : Nat → Int) : dt_sum n (fun k => - f k) = - dt_sum n f := by
  induction n with
  | zero => rfl
  | succ n ih => rw [dt_sum_s, dt_sum_s, ih]; omega
theorem dt_sum_zero {n : Nat} {f : Nat → Int} (h : ∀ k, k < n → f k = 0) : dt_sum n f = 0 := by
  induction n with
  | zero => rfl
  | succ n ih => rw [dt_sum_s, ih (fun k hk => h k (by omega)), h n (by omega)]; rfl
theorem dt_sum_first (n : Nat) (f : Nat → Int) : dt_sum (n + 1) f = f 0 + dt_sum n (fun k => f (k + 1)) := by
  induction n with
  | zero => show (0 : Int) + f 0 = f 0 + 0; omega
  | succ n ih => rw [dt_sum_s, ih, dt_sum_s]; omega
theorem dt_sum_swap (n m : Nat) (f : Nat → Nat → Int) : dt_sum n (fun i => dt_sum m (fun j => f i j)) = dt_sum m (fun j => dt_sum n (fun i => f i j)) := by
  induction n with
  | zero => exact (dt_sum_zero (fun _ _ => rfl)).symm
  | succ n ih =>
    rw [dt_sum_s, ih, ← dt_sum_add]
    exact dt_sum_congr (fun k _ => rfl)
theorem dt_sum_dvd {n : Nat} {q : Int} {f : Nat → Int} (h : ∀ k, k < n → q ∣ f k) : q ∣ dt_sum n f := by
  induction n with
  | zero => exact Int.dvd_zero q
  | succ n ih => rw [dt_sum_s]; exact Int.dvd_add (ih (fun k hk => h k (by omega))) (h n (by omega))
theorem dt_sum_ex {f g : Nat → Int} {i : Nat} (h1 : g i = - f (i + 1)) (h2 : g (i + 1) = - f i) (d : Nat) (h : ∀ k, k < i + 2 + d → k ≠ i → k ≠ i + 1 → g k = - f k) : dt_sum (i + 2 + d) g = - dt_sum (i + 2 + d) f := by
  induction d with
  | zero =>
    show dt_sum i g + g i + g (i + 1) = - (dt_sum i f + f i + f (i + 1))
    rw [h1, h2, dt_sum_congr (g := fun k => - f k) (fun k hk => h k (by omega) (by omega) (by omega)), dt_sum_neg]
    omega
  | succ d ih =>
    show dt_sum (i + 2 + d) g + g (i + 2 + d) = - (dt_sum (i + 2 + d) f + f (i + 2 + d))
    rw [ih (fun k hk => h k (by omega)), h (i + 2 + d) (by omega) (by omega) (by omega)]
    omega
/-! signs, skipping, determinants by the first column -/
def dt_sg : Nat → Int
  | 0 => 1
  | k + 1 => - dt_sg k
theorem dt_sg_s (k : Nat) : dt_sg (k + 1) = - dt_sg k := rfl
theorem dt_sg_or (k : Nat) : dt_sg k = 1 ∨ dt_sg k = -1 := by
  induction k with
  | zero => exact Or.inl rfl
  | succ k ih => rw [dt_sg_s]; omega
def dt_sk (i k : Nat) : Nat := if k < i then k else k + 1
def dt_det : Nat → (Nat → Nat → Int) → Int
  | 0, _ => 1
  | n + 1, B => dt_sum (n + 1) (fun i => dt_sg i * (B i 0 * dt_det n (fun a b => B (dt_sk i a) (b + 1))))
theorem dt_det_s (n : Nat) (B : Nat → Nat → Int) : dt_det (n + 1) B = dt_sum (n + 1) (fun i => dt_sg i * (B i 0 * dt_det n (fun a b => B (dt_sk i a) (b + 1)))) := rfl
theorem dt_det_congr {n : Nat} : ∀ {B C : Nat → Nat → Int}, (∀ i j, i < n → j < n → B i j = C i j) → dt_det n B = dt_det n C := by
  induction n with
  | zero => intro B C _; rfl
  | succ n ih =>
    intro B C h
    rw [dt_det_s, dt_det_s]
    refine dt_sum_congr (fun k hk => ?_)
    rw [h k 0 hk (by omega), ih (B := fun a b => B (dt_sk k a) (b + 1)) (C := fun a b => C (dt_sk k a) (b + 1))]
    intro i j hi hj
    exact h _ _ (by unfold dt_sk; split <;> omega) (by omega)
theorem dt_det_ext {n : Nat} {B C : Nat → Nat → Int} (h : ∀ i j, B i j = C i j) : dt_det n B = dt_det n C := dt_det_congr (fun i j _ _ => h i j)
/-! two rows beside each other change places -/
def dt_sw (i k : Nat) : Nat := if k = i then i + 1 else if k = i + 1 then i else k
theorem dt_sw_lt {i k : Nat} (h : k < i) : dt_sw i k = k := by
  unfold dt_sw
  rw [if_neg (by omega), if_neg (by omega)]
theorem dt_sw_at (i : Nat) : dt_sw i i = i + 1 := by
  unfold dt_sw
  rw [if_pos rfl]
theorem dt_swap {n : Nat} : ∀ (B : Nat → Nat → Int) (i : Nat), i + 1 < n → dt_det n (fun a b => B (dt_sw i a) b) = - dt_det n B := by
  induction n with
  | zero => intro B i h; omega
  | succ n ih =>
    intro B i h
    obtain ⟨d, hd⟩ : ∃ d, n + 1 = i + 2 + d := ⟨n + 1 - (i + 2), by omega⟩
    rw [dt_det_s, dt_det_s, hd]
    refine dt_sum_ex (i := i) ?_ ?_ d ?_
    · have e : dt_sw i i = i + 1 := by simp [dt_sw]
      rw [e, dt_sg_s, Int.neg_mul, Int.neg_neg]
      congr 2
      refine dt_det_ext (fun a b => ?_)
      congr 1
      unfold dt_sw dt_sk
      repeat' split
      all_goals omega
    · have e : dt_sw i (i + 1) = i := by simp [dt_sw]
      rw [e, dt_sg_s, Int.neg_mul]
      congr 3
      refine dt_det_ext (fun a b => ?_)
      congr 1
      unfold dt_sw dt_sk
      repeat' split
      all_goals omega
    · intro k hk h1 h2
      have e : dt_sw i k = k := by simp [dt_sw, h1, h2]
      rw [e]
      have key : dt_det n (fun a b => B (dt_sw i (dt_sk k a)) (b + 1)) = - dt_det n (fun a b => B (dt_sk k a) (b + 1)) := by
        by_cases hki : k < i
        · rw [← ih (fun a b => B (dt_sk k a) (b + 1)) (i - 1) (by omega)]
          refine dt_det_ext (fun a b => ?_)
          show B _ _ = B _ _
          congr 1
          unfold dt_sw dt_sk
          repeat' split
          all_goals omega
        · rw [← ih (fun a b => B (dt_sk k a) (b + 1)) i (by omega)]
          refine dt_det_ext (fun a b => ?_)
          show B _ _ = B _ _
          congr 1
          unfold dt_sw dt_sk
          repeat' split
          all_goals omega
      rw [key, Int.mul_neg, Int.mul_neg]
/-! two equal rows -/
theorem dt_eqrow (n : Nat) : ∀ (d k : Nat) (B : Nat → Nat → Int), k + d + 1 < n → (∀ b, B k b = B (k + d + 1) b) → dt_det n B = 0 := by
  intro d
  induction d with
  | zero =>
    intro k B h e
    have s := dt_swap B k (n := n) (by omega)
    have t : dt_det n (fun a b => B (dt_sw k a) b) = dt_det n B := by
      refine dt_det_ext (fun a b => ?_)
      show B (dt_sw k a) b = B a b
      unfold dt_sw
      split
      · rename_i ha; rw [ha]; exact (e b).symm
      · split
        · rename_i ha; rw [ha]; exact e b
        · rfl
    omega
  | succ d ih =>
    intro k B h e
    have s := dt_swap B (k + d + 1) (n := n) (by omega)
    have t := ih k (fun a b => B (dt_sw (k + d + 1) a) b) (by omega) (fun b => by
      show B (dt_sw (k + d + 1) k) b = B (dt_sw (k + d + 1) (k + d + 1)) b
      rw [dt_sw_lt (by omega), dt_sw_at]; exact e b)
    omega
theorem dt_eqrows {n i k : Nat} {B : Nat → Nat → Int} (hi : i < n) (hk : k < n) (hne : i ≠ k) (e : ∀ b, B i b = B k b) : dt_det n B = 0 := by
  by_cases h : i < k
  · obtain ⟨d, rfl⟩ : ∃ d, k = i + d + 1 := ⟨k - i - 1, by omega⟩
    exact dt_eqrow n d i B hk e
  · obtain ⟨d, rfl⟩ : ∃ d, i = k + d + 1 := ⟨i - k - 1, by omega⟩
    exact dt_eqrow n d k B hi (fun b => (e b).symm)
/-! linear in each row -/
def dt_up (B : Nat → Nat → Int) (k : Nat) (v : Nat → Int) : Nat → Nat → Int := fun a b => if a = k then v b else B a b
theorem dt_up_s (B : Nat → Nat → Int) (k : Nat) (v : Nat → Int) (b : Nat) : dt_up B k v k b = v b := by simp [dt_up]
theorem dt_up_n (B : Nat → Nat → Int) {k a : Nat} (v : Nat → Int) (b : Nat) (h : a ≠ k) : dt_up B k v a b = B a b := by simp [dt_up, h]
theorem dt_lin {n : Nat} : ∀ (B : Nat → Nat → Int) (k : Nat) (x y : Nat → Int) (c : Int), k < n → dt_det n (dt_up B k (fun b => x b + c * y b)) = dt_det n (dt_up B k x) + c * dt_det n (dt_up B k y) := by
  induction n with
  | zero => intro B k x y c h; omega
  | succ n ih =>
    intro B k x y c h
    rw [dt_det_s, dt_det_s, dt_det_s, ← dt_sum_mul, ← dt_sum_add]
    refine dt_sum_congr (fun i hi => ?_)
    by_cases hik : i = k
    · subst hik
      have e : ∀ v : Nat → Int, dt_det n (fun a b => dt_up B i v (dt_sk i a) (b + 1)) = dt_det n (fun a b => B (dt_sk i a) (b + 1)) := by
        intro v
        refine dt_det_ext (fun a b => dt_up_n B v (b + 1) ?_)
        unfold dt_sk; split <;> omega
      rw [e, e, e, dt_up_s, dt_up_s, dt_up_s]
      generalize dt_det n (fun a b => B (dt_sk i a) (b + 1)) = D
      rw [Int.add_mul, Int.mul_add, Int.mul_assoc, Int.mul_left_comm (dt_sg i) c]
    · have e : ∀ v : Nat → Int, dt_det n (fun a b => dt_up B k v (dt_sk i a) (b + 1)) = dt_det n (dt_up (fun a b => B (dt_sk i a) (b + 1)) (if k < i then k else k - 1) (fun b => v (b + 1))) := by
        intro v
        refine dt_det_ext (fun a b => ?_)
        show (if dt_sk i a = k then v (b + 1) else B (dt_sk i a) (b + 1)) = (if a = (if k < i then k else k - 1) then v (b + 1) else B (dt_sk i a) (b + 1))
        have hh : dt_sk i a = k ↔ a = (if k < i then k else k - 1) := by
          unfold dt_sk
          split <;> split <;> omega
        by_cases ha : dt_sk i a = k
        · rw [if_pos ha, if_pos (hh.mp ha)]
        · rw [if_neg ha, if_neg (fun z => ha (hh.mpr z))]
      rw [e, e, e, dt_up_n B _ 0 hik, dt_up_n B _ 0 hik, dt_up_n B _ 0 hik]
      rw [ih _ _ (fun b => x (b + 1)) (fun b => y (b + 1)) c (by split <;> omega)]
      generalize dt_det n (dt_up (fun a b => B (dt_sk i a) (b + 1)) (if k < i then k else k - 1) fun b => x (b + 1)) = X
      generalize dt_det n (dt_up (fun a b => B (dt_sk i a) (b + 1)) (if k < i then k else k - 1) fun b => y (b + 1)) = Y
      rw [Int.mul_add, Int.mul_add, Int.mul_left_comm (B i 0) c, Int.mul_left_comm (dt_sg i) c]
theorem dt_lin_zero {n k : Nat} (B : Nat → Nat → Int) (h : k < n) : dt_det n (dt_up B k (fun _ => 0)) = 0 := by
  have := dt_lin B k (fun _ => 0) (fun _ => 0) 1 h
  have e : dt_det n (dt_up B k (fun b => (fun _ => (0 : Int)) b + 1 * (fun _ => (0 : Int)) b)) = dt_det n (dt_up B k (fun _ => 0)) := rfl
  rw [e] at this
  omega
theorem dt_lin_mul {n k : Nat} (B : Nat → Nat → Int) (y : Nat → Int) (c : Int) (h : k < n) : dt_det n (dt_up B k (fun b => c * y b)) = c * dt_det n (dt_up B k y) := by
  have := dt_lin B k (fun _ => 0) y c h
  rw [dt_lin_zero B h, Int.zero_add] at this
  rw [← this]
  refine dt_det_ext (fun a b => ?_)
  unfold dt_up
  split
  · exact (Int.zero_add _).symm
  · rfl
theorem dt_zrow {n k : Nat} {B : Nat → Nat → Int} (h : k < n) (e : ∀ b, b < n → B k b = 0) : dt_det n B = 0 := by
  rw [← dt_lin_zero B h]
  refine dt_det_congr (fun a b _ hb => ?_)
  unfold dt_up
  split
  · rename_i ha; rw [ha]; exact e b hb
  · rfl
/-! rows and columns change roles -/
theorem dt_tr : ∀ (n : Nat) (B : Nat → Nat → Int), dt_det n (fun a b => B b a) = dt_det n B := by
  intro n
  induction n using Nat.strongRecOn with
  | _ n ih =>
    match n, ih with
    | 0, _ => intro B; rfl
    | 1, _ => intro B; rfl
    | m + 2, ih =>
      have ex : ∀ B : Nat → Nat → Int, dt_det (m + 2) B = B 0 0 * dt_det (m + 1) (fun a b => B (a + 1) (b + 1)) + dt_sum (m + 1) (fun i => dt_sum (m + 1) (fun j => - (dt_sg i * (dt_sg j * (B (i + 1) 0 * (B 0 (j + 1) * dt_det m (fun a b => B (dt_sk i a + 1) (dt_sk j b + 1)))))))) := by
        intro B
        rw [dt_det_s, dt_sum_first]
        congr 1
        · show (1 : Int) * (B 0 0 * dt_det (m + 1) (fun a b => B (dt_sk 0 a) (b + 1))) = _
          rw [Int.one_mul]
          rfl
        · refine dt_sum_congr (fun i hi => ?_)
          rw [← ih (m + 1) (by omega) (fun a b => B (dt_sk (i + 1) a) (b + 1)), dt_det_s, dt_sg_s, Int.neg_mul, ← Int.mul_neg, ← Int.mul_neg, ← dt_sum_neg, ← dt_sum_mul, ← dt_sum_mul]
          refine dt_sum_congr (fun j hj => ?_)
          have e : dt_det m (fun a b => B (dt_sk (i + 1) (b + 1)) (dt_sk j a + 1)) = dt_det m (fun a b => B (dt_sk i a + 1) (dt_sk j b + 1)) := by
            rw [← ih m (by omega) (fun a b => B (dt_sk i a + 1) (dt_sk j b + 1))]
            refine dt_det_ext (fun a b => ?_)
            have : dt_sk (i + 1) (b + 1) = dt_sk i b + 1 := by unfold dt_sk; split <;> split <;> omega
            rw [this]
          show dt_sg i * (B (i + 1) 0 * -(dt_sg j * (B (dt_sk (i + 1) 0) (j + 1) * dt_det m (fun a b => B (dt_sk (i + 1) (b + 1)) (dt_sk j a + 1))))) = _
          have e0 : dt_sk (i + 1) 0 = 0 := by unfold dt_sk; split <;> omega
          rw [e, e0, Int.mul_neg, Int.mul_neg, Int.mul_left_comm (B (i + 1) 0) (dt_sg j)]
      intro B
      rw [ex B, ex (fun a b => B b a)]
      congr 1
      · rw [← ih (m + 1) (by omega) (fun a b => B (a + 1) (b + 1))]
      · rw [dt_sum_swap]
        refine dt_sum_congr (fun i hi => dt_sum_congr (fun j hj => ?_))
        rw [← ih m (by omega) (fun a b => B (dt_sk i a + 1) (dt_sk j b + 1))]
        generalize dt_det m (fun a b => B (dt_sk i b + 1) (dt_sk j a + 1)) = D
        show - (dt_sg j * (dt_sg i * (B 0 (j + 1) * (B (i + 1) 0 * D)))) = - (dt_sg i * (dt_sg j * (B (i + 1) 0 * (B 0 (j + 1) * D))))
        rw [Int.mul_left_comm (dt_sg j) (dt_sg i), Int.mul_left_comm (B 0 (j + 1)) (B (i + 1) 0)]
theorem dt_row0 (n : Nat) (B : Nat → Nat → Int) : dt_det (n + 1) B = dt_sum (n + 1) (fun j => dt_sg j * (B 0 j * dt_det n (fun a b => B (a + 1) (dt_sk j b)))) := by
  rw [← dt_tr (n + 1) B, dt_det_s]
  refine dt_sum_congr (fun j hj => ?_)
  rw [← dt_tr n (fun a b => B (a + 1) (dt_sk j b))]
/-! a row comes to the front -/
def dt_fr (k : Nat) : Nat → Nat
  | 0 => k
  | a + 1 => dt_sk k a
theorem dt_front {n : Nat} : ∀ (k : Nat) (B : Nat → Nat → Int), k < n → dt_det n (fun a b => B (dt_fr k a) b) = dt_sg k * dt_det n B := by
  intro k
  induction k with
  | zero =>
    intro B h
    show _ = (1 : Int) * _
    rw [Int.one_mul]
    refine dt_det_ext (fun a b => ?_)
    cases a with
    | zero => rfl
    | succ a => rfl
  | succ k ih =>
    intro B h
    have e := ih (fun a b => B (dt_sw k a) b) (by omega)
    rw [dt_swap B k h, Int.mul_neg, ← Int.neg_mul, ← dt_sg_s] at e
    rw [← e]
    refine dt_det_ext (fun a b => ?_)
    show B (dt_fr (k + 1) a) b = B (dt_sw k (dt_fr k a)) b
    congr 1
    cases a with
    | zero => show k + 1 = dt_sw k k; simp [dt_sw]
    | succ a =>
      show dt_sk (k + 1) a = dt_sw k (dt_sk k a)
      unfold dt_sk dt_sw
      repeat' split
      all_goals omega
theorem dt_frontc {n k : Nat} (B : Nat → Nat → Int) (h : k < n) : dt_det n (fun a b => B a (dt_fr k b)) = dt_sg k * dt_det n B := by
  rw [← dt_tr n (fun a b => B a (dt_fr k b)), ← dt_tr n B]
  exact dt_front k (fun a b => B b a) h
/-! a factor at every entry -/
theorem dt_scale (c : Int) : ∀ (n : Nat) (B : Nat → Nat → Int), dt_det n (fun a b => c * B a b) = c ^ n * dt_det n B := by
  intro n
  induction n with
  | zero => intro B; rw [Int.pow_zero, Int.one_mul]; rfl
  | succ n ih =>
    intro B
    rw [dt_det_s, dt_det_s, ← dt_sum_mul]
    refine dt_sum_congr (fun i hi => ?_)
    rw [ih (fun a b => B (dt_sk i a) (b + 1)), Int.pow_succ]
    generalize dt_det n (fun a b => B (dt_sk i a) (b + 1)) = D
    generalize c ^ n = p
    generalize dt_sg i = s
    generalize B i 0 = x
    grind
/-! Chio: a row of the first kind at every place but the first -/
theorem dt_chio (n : Nat) (B : Nat → Nat → Int) : B 0 0 * dt_det n (fun i j => B 0 0 * B (i + 1) (j + 1) - B (i + 1) 0 * B 0 (j + 1)) = B 0 0 ^ n * dt_det (n + 1) B := by
  have step : ∀ k, k ≤ n → dt_det (n + 1) (fun i j => if 0 < i ∧ i ≤ k then B 0 0 * B i j - B i 0 * B 0 j else B i j) = B 0 0 ^ k * dt_det (n + 1) B := by
    intro k
    induction k with
    | zero =>
      intro _
      rw [Int.pow_zero, Int.one_mul]
      refine dt_det_ext (fun i j => ?_)
      rw [if_neg (by omega)]
    | succ k ih =>
      intro hk
      have e := dt_lin (n := n + 1) (fun i j => if 0 < i ∧ i ≤ k then B 0 0 * B i j - B i 0 * B 0 j else B i j) (k + 1) (fun j => B 0 0 * B (k + 1) j) (fun j => B 0 j) (- B (k + 1) 0) (by omega)
      rw [dt_lin_mul _ (fun j => B (k + 1) j) (B 0 0) (by omega)] at e
      have z : dt_det (n + 1) (dt_up (fun i j => if 0 < i ∧ i ≤ k then B 0 0 * B i j - B i 0 * B 0 j else B i j) (k + 1) (fun j => B 0 j)) = 0 := by
        refine dt_eqrows (i := 0) (k := k + 1) (by omega) (by omega) (by omega) (fun b => ?_)
        rw [dt_up_s, dt_up_n _ _ _ (by omega), if_neg (by omega)]
      have o : dt_det (n + 1) (dt_up (fun i j => if 0 < i ∧ i ≤ k then B 0 0 * B i j - B i 0 * B 0 j else B i j) (k + 1) (fun j => B (k + 1) j)) = B 0 0 ^ k * dt_det (n + 1) B := by
        rw [← ih (by omega)]
        refine dt_det_ext (fun a b => ?_)
        unfold dt_up
        split
        · rename_i ha; rw [ha, if_neg (by omega)]
        · rfl
      rw [z, o, Int.mul_zero, Int.add_zero, ← Int.mul_assoc, Int.mul_comm (B 0 0), ← Int.pow_succ] at e
      rw [← e]
      refine dt_det_ext (fun a b => ?_)
      unfold dt_up
      by_cases ha : a = k + 1
      · subst ha
        rw [if_pos rfl, if_pos (by omega)]
        dsimp only
        rw [Int.neg_mul, Int.sub_eq_add_neg]
      · rw [if_neg ha]
        dsimp only
        by_cases hb : 0 < a ∧ a ≤ k
        · rw [if_pos hb, if_pos (by omega)]
        · rw [if_neg hb, if_neg (by omega)]
  rw [← step n (Nat.le_refl n), dt_det_s, dt_sum_first, dt_sum_zero, Int.add_zero]
  · show _ = (1 : Int) * _
    rw [Int.one_mul, if_neg (by omega)]
    congr 1
    refine dt_det_congr (fun i j hi hj => ?_)
    show _ = (if 0 < i + 1 ∧ i + 1 ≤ n then B 0 0 * B (i + 1) (j + 1) - B (i + 1) 0 * B 0 (j + 1) else B (i + 1) (j + 1))
    rw [if_pos (by omega)]
  · intro i hi
    show dt_sg (i + 1) * ((if 0 < i + 1 ∧ i + 1 ≤ n then B 0 0 * B (i + 1) 0 - B (i + 1) 0 * B 0 0 else B (i + 1) 0) * _) = 0
    rw [if_pos (by omega), Int.mul_comm (B 0 0), Int.sub_self, Int.zero_mul, Int.mul_zero]
