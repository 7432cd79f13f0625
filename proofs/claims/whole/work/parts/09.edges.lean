/-! the edge matrices over the sets 0 to 63: row s, column t -/
def ed_pc (s : Nat) : Nat := s % 2 + s / 2 % 2 + s / 4 % 2 + s / 8 % 2 + s / 16 % 2 + s / 32 % 2
def ed_en (s t : Nat) : Int := if s &&& t = s ∧ ed_pc t = ed_pc s + 1 then dt_sg (ed_pc (t % (t ^^^ s))) else 0
def ed_D (k s t : Nat) : Int := if s < 64 ∧ t < 64 ∧ 1 ≤ k ∧ ed_pc t = k + 1 then ed_en s t else 0
theorem ed_D_out {k s t : Nat} (h : 64 ≤ s ∨ 64 ≤ t) : ed_D k s t = 0 := by
  unfold ed_D
  rw [if_neg (by omega)]
theorem ed_M1 : rk_M 1 (ed_D 1) := ce_ck_ok (R := 64) (C := 64) (rows := [0, 2, 5, 0, 7, 0, 0, 0, 9, 0, 0, 0, 0, 0, 0, 0, 11, 0, 0, 0, 0, 0, 0, 0, 0, 0, 0, 0, 0, 0, 0, 0, 13, 0, 0, 0, 0, 0, 0, 0, 0, 0, 0, 0, 0, 0, 0, 0, 0, 0, 0, 0, 0, 0, 0, 0, 0, 0, 0, 0, 0, 0, 0, 0]) (cols := [0, 0, 0, 9, 0, 7, 18, 0, 0, 5, 16, 0, 24, 0, 0, 0, 0, 3, 14, 0, 22, 0, 0, 0, 28, 0, 0, 0, 0, 0, 0, 0, 0, 11, 12, 0, 20, 0, 0, 0, 26, 0, 0, 0, 0, 0, 0, 0, 30, 0, 0, 0, 0, 0, 0, 0, 0, 0, 0, 0, 0, 0, 0, 0]) (T := ce_m148) ce_p148 [] (ed_D 1) (fun _ _ h => ed_D_out h) (by decide +kernel)
theorem ed_M2 : rk_M 2 (ed_D 2) := ce_ck_ok (R := 64) (C := 64) (rows := [0, 0, 0, 2, 0, 5, 6, 0, 0, 9, 10, 0, 21, 0, 0, 0, 0, 15, 18, 0, 25, 0, 0, 0, 29, 0, 0, 0, 0, 0, 0, 0, 0, 17, 12, 0, 22, 0, 0, 0, 26, 0, 0, 0, 0, 0, 0, 0, 31, 0, 0, 0, 0, 0, 0, 0, 0, 0, 0, 0, 0, 0, 0, 0]) (cols := [0, 0, 0, 0, 0, 0, 0, 7, 0, 0, 0, 4, 0, 17, 18, 0, 0, 0, 0, 10, 0, 13, 20, 0, 0, 25, 35, 0, 39, 0, 0, 0, 0, 0, 0, 2, 0, 23, 14, 0, 0, 32, 26, 0, 36, 0, 0, 0, 0, 31, 29, 0, 41, 0, 0, 0, 9, 0, 0, 0, 0, 0, 0, 0]) (T := ce_m932) ce_p932 [] (ed_D 2) (fun _ _ h => ed_D_out h) (by decide +kernel)
theorem ed_M3 : rk_M 2 (ed_D 3) := ce_ck_ok (R := 64) (C := 64) (rows := [0, 0, 0, 0, 0, 0, 0, 8, 0, 0, 0, 41, 0, 28, 31, 0, 0, 0, 0, 37, 0, 26, 33, 0, 0, 15, 23, 0, 3, 0, 0, 0, 0, 0, 0, 39, 0, 34, 25, 0, 0, 20, 12, 0, 10, 0, 0, 0, 0, 19, 17, 0, 5, 0, 0, 0, 7, 0, 0, 0, 0, 0, 0, 0]) (cols := [0, 0, 0, 0, 0, 0, 0, 0, 0, 0, 0, 0, 0, 0, 0, 31, 0, 0, 0, 0, 0, 0, 0, 27, 0, 0, 0, 22, 0, 13, 17, 0, 0, 0, 0, 0, 0, 0, 0, 29, 0, 0, 0, 24, 0, 18, 14, 0, 0, 0, 0, 21, 0, 11, 9, 0, 0, 6, 4, 0, 2, 0, 0, 0]) (T := (fun i j => ce_m932 j i)) (rk_M_tr ce_p932) [] (ed_D 3) (fun _ _ h => ed_D_out h) (by decide +kernel)
theorem ed_M4 : rk_M 1 (ed_D 4) := ce_ck_ok (R := 64) (C := 64) (rows := [0, 0, 0, 0, 0, 0, 0, 0, 0, 0, 0, 0, 0, 0, 0, 30, 0, 0, 0, 0, 0, 0, 0, 27, 0, 0, 0, 20, 0, 13, 11, 0, 0, 0, 0, 0, 0, 0, 0, 28, 0, 0, 0, 23, 0, 14, 2, 0, 0, 0, 0, 24, 0, 17, 5, 0, 0, 18, 6, 0, 9, 0, 0, 0]) (cols := [0, 0, 0, 0, 0, 0, 0, 0, 0, 0, 0, 0, 0, 0, 0, 0, 0, 0, 0, 0, 0, 0, 0, 0, 0, 0, 0, 0, 0, 0, 0, 13, 0, 0, 0, 0, 0, 0, 0, 0, 0, 0, 0, 0, 0, 0, 0, 10, 0, 0, 0, 0, 0, 0, 0, 9, 0, 0, 0, 6, 0, 5, 3, 0]) (T := (fun i j => ce_m148 j i)) (rk_M_tr ce_p148) [] (ed_D 4) (fun _ _ h => ed_D_out h) (by decide +kernel)
theorem ed_M5 : rk_M 1 (ed_D 5) := ce_ck_ok (R := 64) (C := 64) (rows := []) (cols := []) (T := fun _ _ => 0) ce_nil [(3, 61, 62), (2, 59, 62), (3, 55, 62), (2, 47, 62), (3, 31, 62), (0, 62, 63)] (ed_D 5) (fun _ _ h => ed_D_out h) (by decide +kernel)
theorem ed_pc_le (t : Nat) : ed_pc t ≤ 6 := by unfold ed_pc; omega
theorem ed_M (k : Nat) : rk_M 2 (ed_D k) := by
  match k with
  | 0 =>
    have e : ed_D 0 = fun _ _ => 0 := by
      funext s t
      unfold ed_D
      rw [if_neg (by omega)]
    rw [e]
    exact ce_le (by decide) ce_nil
  | 1 => exact ce_le (by decide) ed_M1
  | 2 => exact ed_M2
  | 3 => exact ed_M3
  | 4 => exact ce_le (by decide) ed_M4
  | 5 => exact ce_le (by decide) ed_M5
  | k + 6 =>
    have e : ed_D (k + 6) = fun _ _ => 0 := by
      funext s t
      unfold ed_D
      have := ed_pc_le t
      rw [if_neg (by omega)]
    rw [e]
    exact ce_le (by decide) ce_nil
/-- the edge matrix of the sets S alone -/
def ed_S (S : Nat → Bool) (k s t : Nat) : Int := if S s = true ∧ S t = true then ed_D k s t else 0
theorem ed_SM (S : Nat → Bool) (k : Nat) : rk_M 2 (ed_S S k) := by
  have z : ∀ s : Nat, (if S s = true then (1 : Int) else 0) = 1 ∨ (if S s = true then (1 : Int) else 0) = -1 ∨ (if S s = true then (1 : Int) else 0) = 0 := by
    intro s
    split
    · exact Or.inl rfl
    · exact Or.inr (Or.inr rfl)
  have h2 : rk_M 2 (fun s t => (if S t = true then (1 : Int) else 0) * ed_D k s t) := rk_M_cols (fun t => if S t = true then (1 : Int) else 0) (fun t => t) z (fun _ _ => rfl) (ed_M k)
  refine rk_M_rows (fun s => if S s = true then (1 : Int) else 0) (fun s => s) z (fun s t => ?_) h2
  show ed_S S k s t = (if S s = true then (1 : Int) else 0) * ((if S t = true then (1 : Int) else 0) * ed_D k s t)
  unfold ed_S
  by_cases hs : S s = true
  · by_cases ht : S t = true
    · rw [if_pos ⟨hs, ht⟩, if_pos hs, if_pos ht, Int.one_mul, Int.one_mul]
    · rw [if_neg (fun h => ht h.2), if_neg ht, Int.zero_mul, Int.mul_zero]
  · rw [if_neg (fun h => hs h.1), if_neg hs, Int.zero_mul]
theorem ed_S_out {S : Nat → Bool} {k s t : Nat} (h : 64 ≤ s ∨ 64 ≤ t) : ed_S S k s t = 0 := by
  unfold ed_S
  rw [ed_D_out h]
  split <;> rfl
