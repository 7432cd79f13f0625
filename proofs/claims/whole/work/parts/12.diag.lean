/-! a diagonal, step by step: u units and w twos so far, W is left -/
def dg_I (A0 W : Nat → Nat → Int) (u w : Nat) : Prop := rk_M 2 W ∧ (∀ s, rk_R 0 W s → rk_R 0 A0 (u + w + s)) ∧ (∀ s, rk_R 2 W s → rk_R 2 A0 (u + s)) ∧ (0 < w → ∀ i j, W i j = 0)
theorem dg_0 {A0 : Nat → Nat → Int} (h : rk_M 2 A0) : dg_I A0 A0 0 0 :=
  ⟨h, fun s z => by rw [Nat.add_zero, Nat.zero_add]; exact z, fun s z => by rw [Nat.zero_add]; exact z, fun z => absurd z (by omega)⟩
theorem dg_re {A0 W V : Nat → Nat → Int} {u w : Nat} (σ τ : Nat → Nat) (hs : ∀ i, σ (σ i) = i) (ht : ∀ j, τ (τ j) = j) (h : ∀ i j, V i j = W (σ i) (τ j)) (I : dg_I A0 W u w) : dg_I A0 V u w :=
  ⟨wi_M_re σ τ h I.1, fun s z => I.2.1 s (wi_R_re σ τ hs ht h z), fun s z => I.2.2.1 s (wi_R_re σ τ hs ht h z), fun z i j => by rw [h]; exact I.2.2.2 z _ _⟩
theorem dg_unit {A0 W V : Nat → Nat → Int} {u w p c : Nat} (hu : W p c = 1 ∨ W p c = -1) (hV : ∀ i j, W p c * V i j = W p c * W i j - W i c * W p j) (I : dg_I A0 W u w) : dg_I A0 V (u + 1) w := by
  have hw : w = 0 := by
    apply Classical.byContradiction
    intro z
    have := I.2.2.2 (by omega) p c
    omega
  have n0 : ¬ (0 : Int) ∣ W p c := by rw [Int.zero_dvd]; omega
  have n2 : ¬ (2 : Int) ∣ W p c := by omega
  refine ⟨rk_M_unit hu hV I.1, fun s z => ?_, fun s z => ?_, fun z => absurd z (by omega)⟩
  · have := I.2.1 (s + 1) (rk_R_V li_p0 n0 n0 hV z)
    rw [show u + 1 + w + s = u + w + (s + 1) by omega]
    exact this
  · have := I.2.2.1 (s + 1) (rk_R_V li_p2 n2 n2 hV z)
    rw [show u + 1 + s = u + (s + 1) by omega]
    exact this
theorem dg_zero {A0 W : Nat → Nat → Int} {u w : Nat} (I : dg_I A0 W u w) (hz : ∀ i j, W i j = 0) : rk_R 0 A0 (u + w) ∧ rk_R 2 A0 u :=
  ⟨I.2.1 0 (rk_R_zero li_p0 (fun i j => by rw [hz]; exact Int.dvd_zero _)), I.2.2.1 0 (rk_R_zero li_p2 (fun i j => by rw [hz]; exact Int.dvd_zero _))⟩
theorem dg_two {A0 W V : Nat → Nat → Int} {u w p c : Nat} (he : ∀ i j, ¬ (W i j = 1 ∨ W i j = -1)) (hu : W p c = 2 ∨ W p c = -2) (hV : ∀ i j, W p c * V i j = W p c * W i j - W i c * W p j) (I : dg_I A0 W u w) : dg_I A0 V u (w + 1) ∧ ∀ i j, V i j = 0 := by
  have hw : w = 0 := by
    apply Classical.byContradiction
    intro z
    have := I.2.2.2 (by omega) p c
    omega
  have hev := li_even I.1 he
  have s0 : ∀ i j, V i j = 0 := by
    intro i j
    have b := I.1 2 (fun a => if a = 0 then p else i) (fun a => if a = 0 then c else j)
    rw [rk_2] at b
    have b' : -2 ≤ W p c * W i j - W i c * W p j ∧ W p c * W i j - W i c * W p j ≤ 2 := b
    have e := hV i j
    have h1 := hev i j
    have h2 := hev i c
    have h3 := hev p j
    rcases hu with u | u <;> rcases h1 with v | v | v <;> rcases h2 with w | w | w <;> rcases h3 with y | y | y <;> rw [u, v, w, y] at b' e <;> omega
  have n0 : ¬ (0 : Int) ∣ W p c := by rw [Int.zero_dvd]; omega
  refine ⟨⟨?_, fun s z => ?_, fun s z => ?_, fun _ => s0⟩, s0⟩
  · rw [show V = fun _ _ => 0 from funext fun i => funext fun j => s0 i j]
    exact ce_le (by decide) ce_nil
  · have := I.2.1 (s + 1) (rk_R_V li_p0 n0 n0 hV z)
    rw [show u + (w + 1) + s = u + w + (s + 1) by omega]
    exact this
  · have e := rk_uni z (rk_R_zero li_p2 (fun i j => by rw [s0]; exact Int.dvd_zero _))
    rw [e]
    exact I.2.2.1 0 (rk_R_zero li_p2 (fun i j => by rcases hev i j with u | u | u <;> rw [u] <;> decide))
/-- the least entry leads: it is 1 or 2 but for the sign, and divides all -/
theorem dg_lead {W : Nat → Nat → Int} {p c : Nat} (hM : rk_M 2 W) (h0 : W p c ≠ 0) (hl : ∀ i j, W i j ≠ 0 → (W p c).natAbs ≤ (W i j).natAbs) : (W p c = 1 ∨ W p c = -1) ∨ ((W p c = 2 ∨ W p c = -2) ∧ ∀ i j, ¬ (W i j = 1 ∨ W i j = -1)) := by
  have b := rk_M_e hM p c
  by_cases u : W p c = 1 ∨ W p c = -1
  · exact Or.inl u
  · refine Or.inr ⟨by omega, fun i j z => ?_⟩
    have := hl i j (by omega)
    omega
theorem dg_div {W : Nat → Nat → Int} {p c : Nat} (hM : rk_M 2 W) (h : (W p c = 1 ∨ W p c = -1) ∨ ((W p c = 2 ∨ W p c = -2) ∧ ∀ i j, ¬ (W i j = 1 ∨ W i j = -1))) (i j : Nat) : ∃ k : Int, W i j = W p c * k ∧ -2 ≤ k ∧ k ≤ 2 := by
  have b := rk_M_e hM i j
  rcases h with u | ⟨u, e⟩
  · rcases u with u | u
    · exact ⟨W i j, by rw [u]; omega, b.1, b.2⟩
    · exact ⟨- W i j, by rw [u]; omega, by omega, by omega⟩
  · rcases li_even hM e i j with v | v | v <;> rcases u with u | u
    · exact ⟨0, by rw [v, u]; omega, by omega, by omega⟩
    · exact ⟨0, by rw [v, u]; omega, by omega, by omega⟩
    · exact ⟨1, by rw [v, u]; omega, by omega, by omega⟩
    · exact ⟨-1, by rw [v, u]; omega, by omega, by omega⟩
    · exact ⟨-1, by rw [v, u]; omega, by omega, by omega⟩
    · exact ⟨1, by rw [v, u]; omega, by omega, by omega⟩
theorem dg_step {A0 W V : Nat → Nat → Int} {u w p c : Nat} (I : dg_I A0 W u w) (h : (W p c = 1 ∨ W p c = -1) ∨ ((W p c = 2 ∨ W p c = -2) ∧ ∀ i j, ¬ (W i j = 1 ∨ W i j = -1))) (hV : ∀ i j, W p c * V i j = W p c * W i j - W i c * W p j) : ((W p c = 1 ∨ W p c = -1) ∧ dg_I A0 V (u + 1) w) ∨ ((W p c = 2 ∨ W p c = -2) ∧ dg_I A0 V u (w + 1)) := by
  rcases h with a | ⟨a, e⟩
  · exact Or.inl ⟨a, dg_unit a hV I⟩
  · exact Or.inr ⟨a, (dg_two e a hV I).1⟩
/-! counting -/
def cn_c (f : Nat → Bool) : Nat → Nat
  | 0 => 0
  | n + 1 => cn_c f n + (if f n = true then 1 else 0)
theorem cn_s (f : Nat → Bool) (n : Nat) : cn_c f (n + 1) = cn_c f n + (if f n = true then 1 else 0) := rfl
theorem cn_congr {f g : Nat → Bool} : ∀ {n : Nat}, (∀ i, i < n → f i = g i) → cn_c f n = cn_c g n := by
  intro n
  induction n with
  | zero => intro _; rfl
  | succ n ih => intro h; rw [cn_s, cn_s, ih (fun i hi => h i (by omega)), h n (by omega)]
theorem cn_le (f : Nat → Bool) (n : Nat) : cn_c f n ≤ n := by
  induction n with
  | zero => exact Nat.le_refl 0
  | succ n ih => rw [cn_s]; split <;> omega
theorem cn_imp {f g : Nat → Bool} : ∀ {n : Nat}, (∀ i, i < n → f i = true → g i = true) → cn_c f n ≤ cn_c g n := by
  intro n
  induction n with
  | zero => intro _; exact Nat.le_refl 0
  | succ n ih =>
    intro h
    have := ih (fun i hi => h i (by omega))
    rw [cn_s, cn_s]
    by_cases e : f n = true
    · rw [if_pos e, if_pos (h n (by omega) e)]; omega
    · rw [if_neg e]; omega
theorem cn_mono (f : Nat → Bool) {a b : Nat} (h : a ≤ b) : cn_c f a ≤ cn_c f b := by
  induction b with
  | zero => have : a = 0 := by omega
            rw [this]; exact Nat.le_refl _
  | succ b ih =>
    by_cases e : a = b + 1
    · rw [e]; exact Nat.le_refl _
    · have := ih (by omega)
      rw [cn_s]; omega
theorem cn_lt {f : Nat → Bool} {s n : Nat} (h : s < n) (hs : f s = true) : cn_c f s < cn_c f n := by
  have := cn_mono f (show s + 1 ≤ n by omega)
  rw [cn_s, if_pos hs] at this
  omega
theorem cn_inj {f : Nat → Bool} {s t : Nat} (hs : f s = true) (ht : f t = true) (h : cn_c f s = cn_c f t) : s = t := by
  rcases Nat.lt_trichotomy s t with z | z | z
  · have := cn_lt z hs; omega
  · exact z
  · have := cn_lt z ht; omega
/-- the i-th number below n with f, or d -/
def cn_sel (f : Nat → Bool) (i d : Nat) : Nat → Nat
  | 0 => d
  | n + 1 => if f n = true ∧ cn_c f n = i then n else cn_sel f i d n
theorem cn_sel_at {f : Nat → Bool} {i d : Nat} : ∀ {n s : Nat}, s < n → f s = true → cn_c f s = i → cn_sel f i d n = s := by
  intro n
  induction n with
  | zero => intro s h; omega
  | succ n ih =>
    intro s h hs hi
    show (if f n = true ∧ cn_c f n = i then n else cn_sel f i d n) = s
    split
    · rename_i z
      exact cn_inj z.1 hs (z.2.trans hi.symm)
    · rename_i z
      by_cases e : s = n
      · exact absurd ⟨e ▸ hs, e ▸ hi⟩ z
      · exact ih (by omega) hs hi
theorem cn_sel_ok {f : Nat → Bool} {i d : Nat} : ∀ {n : Nat}, i < cn_c f n → f (cn_sel f i d n) = true ∧ cn_c f (cn_sel f i d n) = i ∧ cn_sel f i d n < n := by
  intro n
  induction n with
  | zero => intro h; exact absurd h (by simp [cn_c])
  | succ n ih =>
    intro h
    show f (if f n = true ∧ cn_c f n = i then n else cn_sel f i d n) = true ∧ cn_c f (if f n = true ∧ cn_c f n = i then n else cn_sel f i d n) = i ∧ (if f n = true ∧ cn_c f n = i then n else cn_sel f i d n) < n + 1
    split
    · rename_i z
      exact ⟨z.1, z.2, by omega⟩
    · rename_i z
      rw [cn_s] at h
      have h2 : i < cn_c f n := by
        by_cases e : f n = true
        · rw [if_pos e] at h
          have : cn_c f n ≠ i := fun y => z ⟨e, y⟩
          omega
        · rw [if_neg e] at h
          omega
      have := ih h2
      exact ⟨this.1, this.2.1, by omega⟩
theorem cn_sel_no {f : Nat → Bool} {i d : Nat} : ∀ {n : Nat}, cn_c f n ≤ i → cn_sel f i d n = d := by
  intro n
  induction n with
  | zero => intro _; rfl
  | succ n ih =>
    intro h
    show (if f n = true ∧ cn_c f n = i then n else cn_sel f i d n) = d
    rw [cn_s] at h
    split
    · rename_i z
      rw [if_pos z.1] at h
      omega
    · exact ih (by omega)
