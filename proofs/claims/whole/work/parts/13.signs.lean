/-! rows with two entries: signs for the columns, and lifts -/
theorem sf_two {W : Nat → Nat → Int} {i a b : Nat} (hab : a < b) (hb : b < 64) (hz : ∀ j, j ≠ a → j ≠ b → W i j = 0) (x : Nat → Int) : li_dot W x i = W i a * x a + W i b * x b := by
  unfold li_dot
  rw [li_split (fun j => W i j * x j) (c := a) (by omega), li_split (fun j => if j = a then 0 else W i j * x j) (c := b) hb, if_neg (by omega), dt_sum_zero (fun j _ => ?_), Int.add_zero]
  show (if j = b then 0 else if j = a then 0 else W i j * x j) = 0
  by_cases h1 : j = b
  · rw [if_pos h1]
  · rw [if_neg h1]
    by_cases h2 : j = a
    · rw [if_pos h2]
    · rw [if_neg h2, hz j h2 h1, Int.zero_mul]
def sf_2 (W : Nat → Nat → Int) : Prop := ∀ i, (∀ j, W i j = 0) ∨ ∃ a b, a < b ∧ b < 64 ∧ (W i a = 1 ∨ W i a = -1) ∧ (W i b = 1 ∨ W i b = -1) ∧ ∀ j, j ≠ a → j ≠ b → W i j = 0
def sf_G (W : Nat → Nat → Int) (ε : Nat → Int) : Prop := (∀ t, ε t = 1 ∨ ε t = -1) ∧ ∀ i, li_dot W ε i = 0
theorem sf_z {W : Nat → Nat → Int} {i : Nat} (h : ∀ j, W i j = 0) (x : Nat → Int) : li_dot W x i = 0 := dt_sum_zero (fun j _ => by rw [h, Int.zero_mul])
theorem sf_KS {W : Nat → Nat → Int} (h2 : sf_2 W) : li_K W ↔ ∃ ε, sf_G W ε := by
  constructor
  · intro hK
    obtain ⟨y, hy1, hy2⟩ := hK (fun _ => 1) (fun i => by
      rcases h2 i with z | ⟨a, b, hab, hb, ha1, hb1, hz⟩
      · rw [sf_z z]; exact Int.dvd_zero _
      · rw [sf_two hab hb hz]
        rcases ha1 with u | u <;> rcases hb1 with v | v <;> rw [u, v] <;> decide)
    refine ⟨fun j => if 0 < y j then 1 else -1, fun t => ?_, fun i => ?_⟩
    · show (if 0 < y t then (1 : Int) else -1) = 1 ∨ (if 0 < y t then (1 : Int) else -1) = -1
      split
      · exact Or.inl rfl
      · exact Or.inr rfl
    · rcases h2 i with z | ⟨a, b, hab, hb, ha1, hb1, hz⟩
      · exact sf_z z _
      · rw [sf_two hab hb hz]
        have e := hy2 i
        rw [sf_two hab hb hz] at e
        have oa := hy1 a
        have ob := hy1 b
        show W i a * (if 0 < y a then (1 : Int) else -1) + W i b * (if 0 < y b then (1 : Int) else -1) = 0
        have pick : ∀ z : Int, ∃ s : Int, (if 0 < z then (1 : Int) else -1) = s ∧ (0 < z ∧ s = 1 ∨ ¬ 0 < z ∧ s = -1) := by
          intro z
          by_cases p : 0 < z
          · exact ⟨1, if_pos p, Or.inl ⟨p, rfl⟩⟩
          · exact ⟨-1, if_neg p, Or.inr ⟨p, rfl⟩⟩
        obtain ⟨s, hs, hs2⟩ := pick (y a)
        obtain ⟨t, ht, ht2⟩ := pick (y b)
        rw [hs, ht]
        rcases ha1 with u | u <;> rcases hb1 with v | v <;> rw [u, v] at e ⊢ <;> rcases hs2 with ⟨p, q⟩ | ⟨p, q⟩ <;> rcases ht2 with ⟨p', q'⟩ | ⟨p', q'⟩ <;> rw [q, q'] <;> omega
  · rintro ⟨ε, h1, h0⟩ x hx
    refine ⟨fun j => ε j * (x j % 2), fun j => ?_, fun i => ?_⟩
    · show (2 : Int) ∣ ε j * (x j % 2) - x j
      rcases h1 j with u | u <;> rw [u] <;> omega
    · rcases h2 i with z | ⟨a, b, hab, hb, ha1, hb1, hz⟩
      · exact sf_z z _
      · rw [sf_two hab hb hz]
        have e := h0 i
        rw [sf_two hab hb hz] at e
        have d := hx i
        rw [sf_two hab hb hz] at d
        have par : x a % 2 = x b % 2 := by rcases ha1 with u | u <;> rcases hb1 with v | v <;> rw [u, v] at d <;> omega
        show W i a * (ε a * (x a % 2)) + W i b * (ε b * (x b % 2)) = 0
        rw [par]
        generalize x b % 2 = r
        have : W i a * (ε a * r) + W i b * (ε b * r) = (W i a * ε a + W i b * ε b) * r := by grind
        rw [this, e, Int.zero_mul]
theorem sf_c2 {f : Nat → Bool} (h : cn_c f 64 = 2) : ∃ a b, a < b ∧ b < 64 ∧ f a = true ∧ f b = true ∧ ∀ j, j < 64 → f j = true → j = a ∨ j = b := by
  obtain ⟨a1, a2, a3⟩ := cn_sel_ok (f := f) (i := 0) (d := 0) (n := 64) (by omega)
  obtain ⟨b1, b2, b3⟩ := cn_sel_ok (f := f) (i := 1) (d := 0) (n := 64) (by omega)
  refine ⟨_, _, ?_, b3, a1, b1, fun j hj hf => ?_⟩
  · apply Classical.byContradiction
    intro z
    have := cn_mono f (show cn_sel f 1 0 64 ≤ cn_sel f 0 0 64 by omega)
    omega
  · have := cn_lt hj hf
    by_cases e : cn_c f j = 0
    · exact Or.inl (cn_inj hf a1 (by omega))
    · exact Or.inr (cn_inj hf b1 (by omega))
