/-! what is left of a matrix from row r and column c on -/
def wi_w (A : Nat → Nat → Int) (r c : Nat) : Nat → Nat → Int := fun i j => if r ≤ i ∧ c ≤ j then A i j else 0
theorem wi_in {A : Nat → Nat → Int} {r c i j : Nat} (hi : r ≤ i) (hj : c ≤ j) : wi_w A r c i j = A i j := if_pos ⟨hi, hj⟩
theorem wi_out {A : Nat → Nat → Int} {r c i j : Nat} (h : i < r ∨ j < c) : wi_w A r c i j = 0 := if_neg (by omega)
theorem wi_V {A B : Nat → Nat → Int} {r c : Nat} {e : Int} (h : ∀ i j, r < i → c < j → e * B i j = A r c * A i j - A i c * A r j) (i j : Nat) : e * wi_w B (r + 1) (c + 1) i j = wi_w A r c r c * wi_w A r c i j - wi_w A r c i c * wi_w A r c r j := by
  rw [wi_in (Nat.le_refl r) (Nat.le_refl c)]
  by_cases hi : i < r
  · rw [wi_out (by omega), wi_out (Or.inl hi), wi_out (Or.inl hi), Int.mul_zero, Int.mul_zero, Int.zero_mul]; rfl
  by_cases hj : j < c
  · rw [wi_out (by omega), wi_out (Or.inr hj), wi_out (A := A) (i := r) (Or.inr hj), Int.mul_zero, Int.mul_zero, Int.mul_zero]; rfl
  rw [wi_in (A := A) (i := i) (j := j) (by omega) (by omega), wi_in (A := A) (i := i) (j := c) (by omega) (Nat.le_refl c), wi_in (A := A) (i := r) (j := j) (Nat.le_refl r) (by omega)]
  by_cases hi2 : i = r
  · rw [wi_out (by omega), hi2, Int.mul_zero, Int.sub_self]
  by_cases hj2 : j = c
  · rw [wi_out (by omega), hj2, Int.mul_zero, Int.mul_comm (A r c), Int.sub_self]
  rw [wi_in (by omega) (by omega)]
  exact h i j (by omega) (by omega)
theorem wi_Vm {A B : Nat → Nat → Int} {r c : Nat} {q : Int} (h : ∀ i j, r < i → c < j → q ∣ B i j - (A r c * A i j - A i c * A r j)) (i j : Nat) : q ∣ wi_w B (r + 1) (c + 1) i j - (wi_w A r c r c * wi_w A r c i j - wi_w A r c i c * wi_w A r c r j) := by
  by_cases hij : r < i ∧ c < j
  · rw [wi_in (by omega) (by omega), wi_in (Nat.le_refl r) (Nat.le_refl c), wi_in (A := A) (i := i) (j := j) (by omega) (by omega), wi_in (A := A) (i := i) (j := c) (by omega) (Nat.le_refl c), wi_in (A := A) (i := r) (j := j) (Nat.le_refl r) (by omega)]
    exact h i j hij.1 hij.2
  · have e := wi_V (A := A) (B := fun i j => A r c * A i j - A i c * A r j) (r := r) (c := c) (e := 1) (fun i j _ _ => Int.one_mul _) i j
    rw [Int.one_mul] at e
    rw [← e, wi_out (by omega), wi_out (by omega)]
    exact Int.dvd_zero q
/-- rows change places by σ, columns by τ -/
def wi_sw (a b i : Nat) : Nat := if i = a then b else if i = b then a else i
theorem wi_sw_sw (a b i : Nat) : wi_sw a b (wi_sw a b i) = i := by
  unfold wi_sw
  repeat' split
  all_goals omega
theorem wi_sw_ge {a b r i : Nat} (ha : r ≤ a) (hb : r ≤ b) : r ≤ wi_sw a b i ↔ r ≤ i := by
  unfold wi_sw
  repeat' split
  all_goals omega
theorem wi_sw_lt {a b r i : Nat} (ha : a < r) (hb : b < r) : wi_sw a b i < r ↔ i < r := by
  unfold wi_sw
  repeat' split
  all_goals omega
theorem wi_re {A B : Nat → Nat → Int} {r c : Nat} (σ τ : Nat → Nat) (hs : ∀ i, r ≤ σ i ↔ r ≤ i) (ht : ∀ j, c ≤ τ j ↔ c ≤ j) (h : ∀ i j, B i j = A (σ i) (τ j)) (i j : Nat) : wi_w B r c i j = wi_w A r c (σ i) (τ j) := by
  unfold wi_w
  by_cases hh : r ≤ i ∧ c ≤ j
  · rw [if_pos hh, if_pos ⟨(hs i).mpr hh.1, (ht j).mpr hh.2⟩, h]
  · rw [if_neg hh, if_neg (fun z => hh ⟨(hs i).mp z.1, (ht j).mp z.2⟩)]
theorem wi_R_re {q : Int} {W V : Nat → Nat → Int} {s : Nat} (σ τ : Nat → Nat) (hs : ∀ i, σ (σ i) = i) (ht : ∀ j, τ (τ j) = j) (h : ∀ i j, V i j = W (σ i) (τ j)) (hr : rk_R q V s) : rk_R q W s :=
  rk_R_re σ τ σ τ h (fun i j => by rw [h, hs, ht]) hr
theorem wi_M_re {b : Int} {W V : Nat → Nat → Int} (σ τ : Nat → Nat) (h : ∀ i j, V i j = W (σ i) (τ j)) (hm : rk_M b W) : rk_M b V := by
  intro n ρ γ
  rw [dt_det_ext (fun i j => h (ρ i) (γ j))]
  exact hm n (fun i => σ (ρ i)) (fun j => τ (γ j))
theorem wi_Q_re {d : Int} {W V : Nat → Nat → Int} (σ τ : Nat → Nat) (h : ∀ i j, V i j = W (σ i) (τ j)) (hm : rk_Q d W) : rk_Q d V := by
  intro n ρ γ
  rw [dt_det_ext (fun i j => h (ρ i) (γ j))]
  exact hm n (fun i => σ (ρ i)) (fun j => τ (γ j))
/-- a column without entries is left behind -/
theorem wi_col {A : Nat → Nat → Int} {r c : Nat} (h : ∀ i, r ≤ i → A i c = 0) : wi_w A r c = wi_w A r (c + 1) := by
  funext i j
  unfold wi_w
  by_cases hj : j = c
  · rw [if_neg (show ¬ (r ≤ i ∧ c + 1 ≤ j) by omega)]
    by_cases hi : r ≤ i ∧ c ≤ j
    · rw [if_pos hi, hj]; exact h i hi.1
    · rw [if_neg hi]
  · by_cases hi : r ≤ i ∧ c ≤ j
    · rw [if_pos hi, if_pos (by omega)]
    · rw [if_neg hi, if_neg (by omega)]
/-- small minors: the rank at q > 2 is the rank at 0 -/
theorem wi_Zq {q : Int} {W : Nat → Nat → Int} (hq : 2 < q) (hM : rk_M 2 W) (n : Nat) : rk_Z q n W ↔ rk_Z 0 n W := by
  constructor
  · intro z ρ γ
    have b := hM n ρ γ
    obtain ⟨k, hk⟩ := z ρ γ
    rw [Int.zero_dvd]
    rw [hk] at b ⊢
    by_cases k0 : k = 0
    · rw [k0, Int.mul_zero]
    · exfalso
      by_cases kp : 0 < k
      · have : q * 1 ≤ q * k := Int.mul_le_mul_of_nonneg_left (by omega) (by omega)
        rw [Int.mul_one] at this
        omega
      · have : q * k ≤ q * (-1) := Int.mul_le_mul_of_nonneg_left (by omega) (by omega)
        rw [Int.mul_neg, Int.mul_one] at this
        omega
  · intro z ρ γ
    have := z ρ γ
    rw [Int.zero_dvd] at this
    rw [this]
    exact Int.dvd_zero q
theorem wi_q0 {q : Int} {W : Nat → Nat → Int} {r : Nat} (hq : 2 < q) (hM : rk_M 2 W) (h : rk_R q W r) : rk_R 0 W r := fun n => (wi_Zq hq hM n).symm.trans (h n)
theorem wi_0q {q : Int} {W : Nat → Nat → Int} {r : Nat} (hq : 2 < q) (hM : rk_M 2 W) (h : rk_R 0 W r) : rk_R q W r := fun n => (wi_Zq hq hM n).trans (h n)
/-! whole numbers of 32 and 64 bits -/
theorem nu_b {x : Int} (h1 : -2147483648 ≤ x) (h2 : x < 2147483648) : x.bmod (2 ^ 32) = x := Int.bmod_eq_of_le_mul_two (by omega) (by omega)
theorem nu_B {x : Int} (h1 : -9223372036854775808 ≤ x) (h2 : x < 9223372036854775808) : x.bmod (2 ^ 64) = x := Int.bmod_eq_of_le_mul_two (by omega) (by omega)
theorem nu_mul {a b : Int32} (h1 : -2147483648 ≤ a.toInt * b.toInt) (h2 : a.toInt * b.toInt < 2147483648) : (a * b).toInt = a.toInt * b.toInt := by rw [Int32.toInt_mul, nu_b h1 h2]
theorem nu_sub {a b : Int32} (h1 : -2147483648 ≤ a.toInt - b.toInt) (h2 : a.toInt - b.toInt < 2147483648) : (a - b).toInt = a.toInt - b.toInt := by rw [Int32.toInt_sub, nu_b h1 h2]
theorem nu_neg {a : Int32} (h1 : -2147483648 ≤ - a.toInt) (h2 : - a.toInt < 2147483648) : (- a).toInt = - a.toInt := by rw [Int32.toInt_neg, nu_b h1 h2]
theorem nu_MUL {a b : Int64} (h1 : -9223372036854775808 ≤ a.toInt * b.toInt) (h2 : a.toInt * b.toInt < 9223372036854775808) : (a * b).toInt = a.toInt * b.toInt := by rw [Int64.toInt_mul, nu_B h1 h2]
theorem nu_SUB {a b : Int64} (h1 : -9223372036854775808 ≤ a.toInt - b.toInt) (h2 : a.toInt - b.toInt < 9223372036854775808) : (a - b).toInt = a.toInt - b.toInt := by rw [Int64.toInt_sub, nu_B h1 h2]
theorem nu_ADD {a b : Int64} (h1 : -9223372036854775808 ≤ a.toInt + b.toInt) (h2 : a.toInt + b.toInt < 9223372036854775808) : (a + b).toInt = a.toInt + b.toInt := by rw [Int64.toInt_add, nu_B h1 h2]
theorem nu_NEG {a : Int64} (h1 : -9223372036854775808 ≤ - a.toInt) (h2 : - a.toInt < 9223372036854775808) : (- a).toInt = - a.toInt := by rw [Int64.toInt_neg, nu_B h1 h2]
/-- products of small numbers are small -/
theorem nu_pr {a b m : Int} (ha : -m ≤ a) (ha2 : a ≤ m) (hb : -m ≤ b) (hb2 : b ≤ m) : -(m * m) ≤ a * b ∧ a * b ≤ m * m := by
  have hm : 0 ≤ m := by omega
  constructor
  · rcases Int.le_total 0 a with h | h
    · have h1 : a * (-m) ≤ a * b := Int.mul_le_mul_of_nonneg_left hb h
      have h2 : a * m ≤ m * m := Int.mul_le_mul_of_nonneg_right ha2 hm
      rw [Int.mul_neg] at h1
      omega
    · have h1 : a * m ≤ a * b := Int.mul_le_mul_of_nonpos_left h hb2
      have h2 : -m * m ≤ a * m := Int.mul_le_mul_of_nonneg_right ha hm
      rw [Int.neg_mul] at h2
      omega
  · rcases Int.le_total 0 a with h | h
    · have h1 : a * b ≤ a * m := Int.mul_le_mul_of_nonneg_left hb2 h
      have h2 : a * m ≤ m * m := Int.mul_le_mul_of_nonneg_right ha2 hm
      omega
    · have h1 : a * b ≤ a * (-m) := Int.mul_le_mul_of_nonpos_left h hb
      have h2 : -m * m ≤ a * m := Int.mul_le_mul_of_nonneg_right ha hm
      rw [Int.mul_neg] at h1
      rw [Int.neg_mul] at h2
      omega
