/-! primes -/
theorem li_p0 : rk_P 0 := by
  refine ⟨fun a b h => ?_, by decide⟩
  rw [Int.zero_dvd] at h ⊢
  rw [Int.zero_dvd]
  exact Int.mul_eq_zero.mp h
theorem li_pp {p : Nat} (h1 : 1 < p) (h : ∀ r, r < p → 0 < r → Nat.gcd r p = 1) : rk_P (p : Int) := by
  constructor
  · intro a b hab
    rw [Int.ofNat_dvd_left] at hab ⊢
    rw [Int.ofNat_dvd_left]
    rw [Int.natAbs_mul] at hab
    by_cases ha : p ∣ a.natAbs
    · exact Or.inl ha
    · right
      have hr : 0 < a.natAbs % p := Nat.pos_of_ne_zero (fun z => ha (Nat.dvd_of_mod_eq_zero z))
      have hg : Nat.Coprime p a.natAbs := by
        show Nat.gcd p a.natAbs = 1
        rw [Nat.gcd_rec]
        exact h _ (Nat.mod_lt _ (by omega)) hr
      exact hg.dvd_of_dvd_mul_left hab
  · intro z
    rw [Int.ofNat_dvd_left] at z
    have := Nat.le_of_dvd (by decide) z
    have e : (1 : Int).natAbs = 1 := rfl
    omega
theorem li_p2 : rk_P 2 := li_pp (p := 2) (by decide) (by decide)
theorem li_p3 : rk_P 3 := li_pp (p := 3) (by decide) (by decide)
theorem li_p5 : rk_P 5 := li_pp (p := 5) (by decide) (by decide)
theorem li_p1031 : rk_P 1031 := li_pp (p := 1031) (by decide) (by decide +kernel)
/-! chains closed modulo 2 and closed chains -/
def li_dot (W : Nat → Nat → Int) (x : Nat → Int) (i : Nat) : Int := dt_sum 64 (fun j => W i j * x j)
def li_K (W : Nat → Nat → Int) : Prop := ∀ x : Nat → Int, (∀ i, (2 : Int) ∣ li_dot W x i) → ∃ y : Nat → Int, (∀ j, (2 : Int) ∣ y j - x j) ∧ ∀ i, li_dot W y i = 0
theorem li_split (f : Nat → Int) {c : Nat} : ∀ {n : Nat}, c < n → dt_sum n f = f c + dt_sum n (fun j => if j = c then 0 else f j) := by
  intro n
  induction n with
  | zero => intro h; omega
  | succ n ih =>
    intro h
    rw [dt_sum_s, dt_sum_s]
    by_cases e : n = c
    · subst e
      rw [if_pos rfl, dt_sum_congr (f := fun j => if j = n then 0 else f j) (g := f) (fun k hk => by rw [if_neg (by omega)])]
      omega
    · rw [ih (by omega), if_neg e]; omega
/-- x with another value at c -/
def li_at (x : Nat → Int) (c : Nat) (v : Int) : Nat → Int := fun j => if j = c then v else x j
theorem li_dot_at (W : Nat → Nat → Int) (x : Nat → Int) {c : Nat} (hc : c < 64) (v : Int) (i : Nat) : li_dot W (li_at x c v) i = W i c * v + dt_sum 64 (fun j => if j = c then 0 else W i j * x j) := by
  unfold li_dot
  rw [li_split (fun j => W i j * li_at x c v j) hc]
  congr 1
  · show W i c * (if c = c then v else x c) = _
    rw [if_pos rfl]
  · refine dt_sum_congr (fun j _ => ?_)
    show (if j = c then 0 else W i j * (if j = c then v else x j)) = _
    by_cases h : j = c
    · rw [if_pos h, if_pos h]
    · rw [if_neg h, if_neg h, if_neg h]
/-- the steps at a unit entry: V is W less multiples of row p -/
theorem li_step {W V : Nat → Nat → Int} {p c : Nat} (hc : c < 64) (hu : W p c = 1 ∨ W p c = -1) (hV : ∀ i j, V i j = W i j - W p c * W i c * W p j) : li_K W ↔ li_K V := by
  have hVc : ∀ i, V i c = 0 := by
    intro i
    rw [hV]
    rcases hu with u | u <;> rw [u] <;> omega
  have hd : ∀ x i, li_dot V x i = li_dot W x i - W p c * W i c * li_dot W x p := by
    intro x i
    unfold li_dot
    rw [Int.sub_eq_add_neg, ← Int.neg_mul, ← dt_sum_mul, ← dt_sum_add]
    refine dt_sum_congr (fun j _ => ?_)
    rw [hV]
    grind
  have hVat : ∀ x v i, li_dot V (li_at x c v) i = li_dot V x i := by
    intro x v i
    rw [li_dot_at V x hc, hVc, Int.zero_mul, Int.zero_add]
    unfold li_dot
    refine dt_sum_congr (fun j _ => ?_)
    by_cases h : j = c
    · rw [if_pos h, h, hVc, Int.zero_mul]
    · rw [if_neg h]
  have hback : ∀ x, li_dot W x p = 0 → (∀ i, li_dot V x i = 0) → ∀ i, li_dot W x i = 0 := by
    intro x h0 hx i
    have := hd x i
    rw [hx i, h0, Int.mul_zero] at this
    omega
  constructor
  · intro h x hx
    have e0 : li_dot W (li_at x c (- W p c * dt_sum 64 (fun j => if j = c then 0 else W p j * x j))) p = 0 := by
      rw [li_dot_at W x hc]
      generalize dt_sum 64 (fun j => if j = c then 0 else W p j * x j) = s
      rcases hu with u | u <;> rw [u] <;> omega
    obtain ⟨y, hy1, hy2⟩ := h (li_at x c (- W p c * dt_sum 64 (fun j => if j = c then 0 else W p j * x j))) (fun i => by
      have := hd (li_at x c (- W p c * dt_sum 64 (fun j => if j = c then 0 else W p j * x j))) i
      rw [hVat, e0, Int.mul_zero] at this
      have h2 := hx i
      rw [this] at h2
      rwa [Int.sub_zero] at h2)
    refine ⟨li_at y c (x c), fun j => ?_, fun i => ?_⟩
    · show (2 : Int) ∣ (if j = c then x c else y j) - x j
      by_cases hj : j = c
      · rw [if_pos hj, hj, Int.sub_self]; exact Int.dvd_zero 2
      · rw [if_neg hj]
        have := hy1 j
        unfold li_at at this
        rwa [if_neg hj] at this
    · rw [hVat, hd, hy2, hy2, Int.mul_zero]; rfl
  · intro h x hx
    obtain ⟨y, hy1, hy2⟩ := h x (fun i => by
      rw [hd, Int.sub_eq_add_neg, ← Int.neg_mul]
      exact Int.dvd_add (hx i) (rk_dm _ (hx p)))
    refine ⟨li_at y c (- W p c * dt_sum 64 (fun j => if j = c then 0 else W p j * y j)), fun j => ?_, ?_⟩
    · show (2 : Int) ∣ (if j = c then - W p c * dt_sum 64 (fun j => if j = c then 0 else W p j * y j) else y j) - x j
      by_cases hj : j = c
      · rw [if_pos hj, hj]
        have hp := hx p
        have e1 : li_dot W x p = W p c * x c + dt_sum 64 (fun j => if j = c then 0 else W p j * x j) := by
          unfold li_dot
          exact li_split (fun j => W p j * x j) hc
        have e2 : (2 : Int) ∣ dt_sum 64 (fun j => if j = c then 0 else W p j * y j) - dt_sum 64 (fun j => if j = c then 0 else W p j * x j) := by
          rw [Int.sub_eq_add_neg, ← dt_sum_neg, ← dt_sum_add]
          refine dt_sum_dvd (fun k _ => ?_)
          by_cases hk : k = c
          · rw [if_pos hk, if_pos hk]; decide
          · rw [if_neg hk, if_neg hk]
            have e3 : W p k * y k + - (W p k * x k) = W p k * (y k - x k) := by grind
            rw [e3]
            exact rk_dm _ (hy1 k)
        rw [e1] at hp
        generalize dt_sum 64 (fun j => if j = c then 0 else W p j * y j) = s at *
        generalize dt_sum 64 (fun j => if j = c then 0 else W p j * x j) = t at *
        rcases hu with u | u <;> rw [u] at hp ⊢ <;> omega
      · rw [if_neg hj]; exact hy1 j
    · refine hback _ ?_ (fun i => by rw [hVat]; exact hy2 i)
      rw [li_dot_at W y hc]
      generalize dt_sum 64 (fun j => if j = c then 0 else W p j * y j) = s
      rcases hu with u | u <;> rw [u] <;> omega
theorem li_re {W V : Nat → Nat → Int} (σ : Nat → Nat) (hσ : ∀ i, σ (σ i) = i) (hV : ∀ i j, V i j = W (σ i) j) : li_K W ↔ li_K V := by
  have hd : ∀ x i, li_dot V x i = li_dot W x (σ i) := fun x i => dt_sum_congr (fun j _ => by rw [hV])
  have hd2 : ∀ x i, li_dot W x i = li_dot V x (σ i) := fun x i => by rw [hd, hσ]
  constructor
  · intro h x hx
    obtain ⟨y, h1, h2⟩ := h x (fun i => by rw [hd2]; exact hx _)
    exact ⟨y, h1, fun i => by rw [hd]; exact h2 _⟩
  · intro h x hx
    obtain ⟨y, h1, h2⟩ := h x (fun i => by rw [hd]; exact hx _)
    exact ⟨y, h1, fun i => by rw [hd2]; exact h2 _⟩
/-- no entry is odd -/
theorem li_even {W : Nat → Nat → Int} (hM : rk_M 2 W) (he : ∀ i j, ¬ (W i j = 1 ∨ W i j = -1)) (i j : Nat) : W i j = 0 ∨ W i j = 2 ∨ W i j = -2 := by
  have := rk_M_e hM i j
  have := he i j
  omega
theorem li_four {n : Nat} {f : Nat → Int} (h : ∀ k, k < n → ∃ z, f k = 4 * z) : ∃ z, dt_sum n f = 4 * z := by
  induction n with
  | zero => exact ⟨0, rfl⟩
  | succ n ih =>
    obtain ⟨z, hz⟩ := ih (fun k hk => h k (by omega))
    obtain ⟨w, hw⟩ := h n (by omega)
    exact ⟨z + w, by rw [dt_sum_s, hz, hw]; omega⟩
theorem li_main : ∀ (m : Nat) (W : Nat → Nat → Int), rk_M 2 W → (∀ i j, m ≤ i ∨ 64 ≤ j → W i j = 0) → ∃ r0 r2, rk_R 0 W r0 ∧ rk_R 2 W r2 ∧ (li_K W ↔ r0 = r2) := by
  intro m
  induction m with
  | zero =>
    intro W _ ho
    have hz : ∀ i j, W i j = 0 := fun i j => ho i j (by omega)
    refine ⟨0, 0, rk_R_zero li_p0 (fun i j => by rw [hz]; exact Int.dvd_zero _), rk_R_zero li_p2 (fun i j => by rw [hz]; exact Int.dvd_zero _), fun _ => rfl, fun _ x _ => ⟨x, fun j => by rw [Int.sub_self]; exact Int.dvd_zero _, fun i => dt_sum_zero (fun j _ => by rw [hz, Int.zero_mul])⟩⟩
  | succ m ih =>
    intro W hM ho
    by_cases hodd : ∃ p c, W p c = 1 ∨ W p c = -1
    · obtain ⟨p, c, hu⟩ := hodd
      have hp : p < m + 1 := by
        apply Classical.byContradiction
        intro z
        have := ho p c (by omega)
        omega
      have hc : c < 64 := by
        apply Classical.byContradiction
        intro z
        have := ho p c (by omega)
        omega
      -- the matrix behind the step, its row p changed with row m
      let σ : Nat → Nat := fun i => if i = p then m else if i = m then p else i
      have hσ : ∀ i, σ (σ i) = i := by
        intro i
        show (if (if i = p then m else if i = m then p else i) = p then m else if (if i = p then m else if i = m then p else i) = m then p else (if i = p then m else if i = m then p else i)) = i
        repeat' split
        all_goals omega
      let V : Nat → Nat → Int := fun i j => W i j - W p c * W i c * W p j
      have hV : ∀ i j, V i j = W i j - W p c * W i c * W p j := fun _ _ => rfl
      have hV2 : ∀ i j, W p c * V i j = W p c * W i j - W i c * W p j := by
        intro i j
        rw [hV]
        rcases hu with u | u <;> rw [u] <;> grind
      have hVp : ∀ j, V p j = 0 := by
        intro j
        rw [hV]
        rcases hu with u | u <;> rw [u] <;> omega
      have hMV : rk_M 2 V := rk_M_unit hu hV2 hM
      have hVo : ∀ i j, m + 1 ≤ i ∨ 64 ≤ j → V i j = 0 := by
        intro i j hij
        rw [hV, ho i j hij]
        rcases hij with hi | hj
        · rw [ho i c (Or.inl hi), Int.mul_zero, Int.zero_mul]; rfl
        · rw [ho p j (Or.inr hj), Int.mul_zero]; rfl
      let U : Nat → Nat → Int := fun i j => V (σ i) j
      have hMU : rk_M 2 U := rk_M_rows (fun _ => 1) σ (fun _ => Or.inl rfl) (fun i j => (Int.one_mul _).symm) hMV
      obtain ⟨r0, r2, h0, h2, hk⟩ := ih U hMU (by
        intro i j hij
        show V (σ i) j = 0
        rcases hij with hi | hj
        · by_cases him : i = m
          · have e : σ i = p ∨ σ i = m + 1 ∨ σ i = m := by
              show (if i = p then m else if i = m then p else i) = p ∨ _ ∨ (if i = p then m else if i = m then p else i) = m
              repeat' split
              all_goals omega
            by_cases hip : i = p
            · have : σ i = p := by
                show (if i = p then m else if i = m then p else i) = p
                rw [if_pos hip]; omega
              rw [this]; exact hVp j
            · have : σ i = p := by
                show (if i = p then m else if i = m then p else i) = p
                rw [if_neg hip, if_pos him]
              rw [this]; exact hVp j
          · have : σ i = i := by
              show (if i = p then m else if i = m then p else i) = i
              repeat' split
              all_goals omega
            rw [this]
            exact hVo i j (Or.inl (by omega))
        · exact hVo _ j (Or.inr hj))
      have n0 : ¬ (0 : Int) ∣ W p c := by rw [Int.zero_dvd]; omega
      have n2 : ¬ (2 : Int) ∣ W p c := by omega
      have r0V : rk_R 0 V r0 := rk_R_re σ (fun j => j) σ (fun j => j) (fun i j => rfl) (fun i j => by show V i j = V (σ (σ i)) j; rw [hσ]) h0
      have r2V : rk_R 2 V r2 := rk_R_re σ (fun j => j) σ (fun j => j) (fun i j => rfl) (fun i j => by show V i j = V (σ (σ i)) j; rw [hσ]) h2
      refine ⟨r0 + 1, r2 + 1, rk_R_V li_p0 n0 n0 hV2 r0V, rk_R_V li_p2 n2 n2 hV2 r2V, ?_⟩
      rw [li_step hc hu hV, li_re σ hσ (V := U) (fun _ _ => rfl), hk]
      omega
    · have he : ∀ i j, ¬ (W i j = 1 ∨ W i j = -1) := fun i j z => hodd ⟨i, j, z⟩
      have hev := li_even hM he
      have z2 : rk_R 2 W 0 := rk_R_zero li_p2 (fun i j => by rcases hev i j with u | u | u <;> rw [u] <;> decide)
      by_cases hz : ∀ i j, W i j = 0
      · refine ⟨0, 0, rk_R_zero li_p0 (fun i j => by rw [hz]; exact Int.dvd_zero _), z2, fun _ => rfl, fun _ x _ => ⟨x, fun j => by rw [Int.sub_self]; exact Int.dvd_zero _, fun i => dt_sum_zero (fun j _ => by rw [hz, Int.zero_mul])⟩⟩
      · obtain ⟨p, hp⟩ := Classical.not_forall.mp hz
        obtain ⟨c, hpc⟩ := Classical.not_forall.mp hp
        have hc : c < 64 := Classical.byContradiction fun z => hpc (ho p c (by omega))
        have hpc2 : W p c = 2 ∨ W p c = -2 := by have := hev p c; omega
        -- the rank at 0 is one: all two-row minors are 0
        have s0 : ∀ i j, rk_S W p c i j = 0 := by
          intro i j
          have b := hM 2 (fun a => if a = 0 then p else i) (fun a => if a = 0 then c else j)
          rw [rk_2] at b
          have b' : -2 ≤ W p c * W i j - W i c * W p j ∧ W p c * W i j - W i c * W p j ≤ 2 := b
          show W p c * W i j - W i c * W p j = 0
          have h1 := hev i j
          have h2 := hev i c
          have h3 := hev p j
          rcases hpc2 with u | u <;> rcases h1 with v | v | v <;> rcases h2 with w | w | w <;> rcases h3 with y | y | y <;> rw [u, v, w, y] at b' ⊢ <;> omega
        have n0 : ¬ (0 : Int) ∣ W p c := by rw [Int.zero_dvd]; omega
        refine ⟨1, 0, rk_R_S li_p0 n0 (rk_R_zero li_p0 (fun i j => by rw [s0]; exact Int.dvd_zero _)), z2, fun hK => ?_, fun z => absurd z (by omega)⟩
        exfalso
        obtain ⟨y, hy1, hy2⟩ := hK (li_at (fun _ => 0) c 1) (fun i => dt_sum_dvd (fun j _ => by
          rw [Int.mul_comm]
          exact rk_dm _ (by rcases hev i j with u | u | u <;> rw [u] <;> decide)))
        have e := hy2 p
        have e1 : li_dot W y p = W p c * y c + dt_sum 64 (fun j => if j = c then 0 else W p j * y j) := by
          unfold li_dot
          exact li_split (fun j => W p j * y j) hc
        obtain ⟨z, hz4⟩ := li_four (n := 64) (f := fun j => if j = c then 0 else W p j * y j) (fun k _ => by
          by_cases hk : k = c
          · exact ⟨0, by rw [if_pos hk]; rfl⟩
          · rw [if_neg hk]
            have hyk := hy1 k
            unfold li_at at hyk
            rw [if_neg hk, Int.sub_zero] at hyk
            obtain ⟨w, hw⟩ := hyk
            rcases hev p k with u | u | u
            · exact ⟨0, by rw [u, Int.zero_mul]; rfl⟩
            · exact ⟨w, by rw [u, hw]; omega⟩
            · exact ⟨-w, by rw [u, hw]; omega⟩)
        have hyc := hy1 c
        unfold li_at at hyc
        rw [if_pos rfl] at hyc
        rw [e1, hz4] at e
        rcases hpc2 with u | u <;> rw [u] at e <;> omega
