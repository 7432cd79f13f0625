/-! minors, rank at q, bounds -/
theorem rk_dm {q x : Int} (c : Int) (h : q ∣ x) : q ∣ c * x := Int.dvd_trans h (Int.dvd_mul_left c x)
theorem rk_mod {q : Int} : ∀ {n : Nat} {B C : Nat → Nat → Int}, (∀ i j, q ∣ B i j - C i j) → q ∣ dt_det n B - dt_det n C := by
  intro n
  induction n with
  | zero => intro B C h; exact Int.dvd_zero q
  | succ n ih =>
    intro B C h
    rw [dt_det_s, dt_det_s, Int.sub_eq_add_neg, ← dt_sum_neg, ← dt_sum_add]
    refine dt_sum_dvd (fun i hi => ?_)
    have h1 := h i 0
    have h2 := ih (B := fun a b => B (dt_sk i a) (b + 1)) (C := fun a b => C (dt_sk i a) (b + 1)) (fun a b => h _ _)
    generalize dt_det n (fun a b => B (dt_sk i a) (b + 1)) = D at *
    generalize dt_det n (fun a b => C (dt_sk i a) (b + 1)) = E at *
    have e : dt_sg i * (B i 0 * D) + -(dt_sg i * (C i 0 * E)) = dt_sg i * D * (B i 0 - C i 0) + dt_sg i * C i 0 * (D - E) := by grind
    rw [e]
    exact Int.dvd_add (rk_dm _ h1) (rk_dm _ h2)
def rk_Z (q : Int) (n : Nat) (W : Nat → Nat → Int) : Prop := ∀ ρ γ : Nat → Nat, q ∣ dt_det n (fun i j => W (ρ i) (γ j))
theorem rk_Z_mono {q : Int} {n : Nat} {W : Nat → Nat → Int} (h : rk_Z q n W) : rk_Z q (n + 1) W := by
  intro ρ γ
  rw [dt_det_s]
  exact dt_sum_dvd (fun i _ => rk_dm _ (rk_dm _ (h (fun a => ρ (dt_sk i a)) (fun b => γ (b + 1)))))
theorem rk_Z_le {q : Int} {n m : Nat} {W : Nat → Nat → Int} (hnm : n ≤ m) (h : rk_Z q n W) : rk_Z q m W := by
  induction m with
  | zero => have : n = 0 := by omega
            rw [← this]; exact h
  | succ m ih =>
    by_cases e : n = m + 1
    · rw [← e]; exact h
    · exact rk_Z_mono (ih (by omega))
theorem rk_Z_re {q : Int} {n : Nat} {W V : Nat → Nat → Int} (ρ γ : Nat → Nat) (e : ∀ i j, V i j = W (ρ i) (γ j)) (h : rk_Z q n W) : rk_Z q n V := by
  intro ρ' γ'
  rw [dt_det_ext (fun i j => e (ρ' i) (γ' j))]
  exact h (fun i => ρ (ρ' i)) (fun j => γ (γ' j))
theorem rk_Z_mod {q : Int} {n : Nat} {W V : Nat → Nat → Int} (e : ∀ i j, q ∣ V i j - W i j) (h : rk_Z q n W) : rk_Z q n V := by
  intro ρ γ
  have h1 := h ρ γ
  have h2 := rk_mod (n := n) (B := fun i j => V (ρ i) (γ j)) (C := fun i j => W (ρ i) (γ j)) (fun i j => e _ _)
  have := Int.dvd_add h2 h1
  rwa [Int.sub_add_cancel] at this
/-- q is 0 or a prime -/
def rk_P (q : Int) : Prop := (∀ a b : Int, q ∣ a * b → q ∣ a ∨ q ∣ b) ∧ ¬ q ∣ 1
theorem rk_pw {q : Int} (hq : rk_P q) {a x : Int} (ha : ¬ q ∣ a) : ∀ n : Nat, q ∣ a ^ n * x → q ∣ x := by
  intro n
  induction n with
  | zero => intro h; rw [Int.pow_zero, Int.one_mul] at h; exact h
  | succ n ih =>
    intro h
    rw [Int.pow_succ, Int.mul_comm (a ^ n), Int.mul_assoc] at h
    exact ih ((hq.1 _ _ h).resolve_left ha)
def rk_co (p : Nat) (ρ : Nat → Nat) : Nat → Nat
  | 0 => p
  | i + 1 => ρ i
def rk_S (W : Nat → Nat → Int) (p c : Nat) : Nat → Nat → Int := fun i j => W p c * W i j - W i c * W p j
theorem rk_chio (W : Nat → Nat → Int) (p c n : Nat) (ρ γ : Nat → Nat) : W p c * dt_det n (fun i j => rk_S W p c (ρ i) (γ j)) = W p c ^ n * dt_det (n + 1) (fun i j => W (rk_co p ρ i) (rk_co c γ j)) :=
  dt_chio n (fun i j => W (rk_co p ρ i) (rk_co c γ j))
/-! one vector added to the rows, each time with a factor -/
theorem rk_one {q : Int} {N : Nat} (S : Nat → Nat → Int) (u : Nat → Int) (c : Nat → Int) (h0 : q ∣ dt_det N S) (h1 : ∀ m, m < N → q ∣ dt_det N (dt_up S m u)) : q ∣ dt_det N (fun i j => S i j + c i * u j) := by
  have eqG : ∀ k, ∀ i j, (if i < k + 1 then S i j + c i * u j else S i j) = dt_up (fun i j => if i < k then S i j + c i * u j else S i j) k (fun j => S k j + c k * u j) i j := by
    intro k i j
    unfold dt_up
    by_cases h : i = k
    · subst h; rw [if_pos (by omega), if_pos rfl]
    · rw [if_neg h]
      dsimp only
      by_cases h2 : i < k
      · rw [if_pos (by omega), if_pos h2]
      · rw [if_neg (by omega), if_neg h2]
  have hb : ∀ k m, k ≤ m → m < N → q ∣ dt_det N (dt_up (fun i j => if i < k then S i j + c i * u j else S i j) m u) := by
    intro k
    induction k with
    | zero =>
      intro m _ hm
      rw [dt_det_ext (C := dt_up S m u) (fun i j => by unfold dt_up; simp)]
      exact h1 m hm
    | succ k ih =>
      intro m hkm hm
      have e : dt_det N (dt_up (fun i j => if i < k + 1 then S i j + c i * u j else S i j) m u) = dt_det N (dt_up (dt_up (fun i j => if i < k then S i j + c i * u j else S i j) m u) k (fun j => S k j + c k * u j)) := by
        refine dt_det_ext (fun i j => ?_)
        by_cases h : i = k
        · subst h
          rw [dt_up_s, dt_up_n _ _ _ (by omega), if_pos (by omega)]
        · rw [dt_up_n _ _ _ h]
          by_cases h2 : i = m
          · subst h2; rw [dt_up_s, dt_up_s]
          · rw [dt_up_n _ _ _ h2, dt_up_n _ _ _ h2, eqG, dt_up_n _ _ _ h]
      rw [e, dt_lin _ k _ _ _ (by omega)]
      refine Int.dvd_add ?_ (rk_dm _ ?_)
      · rw [dt_det_ext (C := dt_up (fun i j => if i < k then S i j + c i * u j else S i j) m u) (fun i j => ?_)]
        · exact ih m (by omega) hm
        · by_cases h : i = k
          · subst h
            rw [dt_up_s, dt_up_n _ _ _ (by omega), if_neg (by omega)]
          · rw [dt_up_n _ _ _ h]
      · rw [dt_eqrows (i := k) (k := m) (by omega) hm (by omega) (fun b => ?_)]
        · exact Int.dvd_zero q
        · rw [dt_up_s, dt_up_n _ _ _ (by omega), dt_up_s]
  have ha : ∀ k, k ≤ N → q ∣ dt_det N (fun i j => if i < k then S i j + c i * u j else S i j) := by
    intro k
    induction k with
    | zero =>
      intro _
      rw [dt_det_ext (C := S) (fun i j => by simp)]
      exact h0
    | succ k ih =>
      intro hk
      rw [dt_det_ext (eqG k), dt_lin _ k _ _ _ (by omega)]
      refine Int.dvd_add ?_ (rk_dm _ (hb k k (Nat.le_refl k) (by omega)))
      rw [dt_det_ext (C := fun i j => if i < k then S i j + c i * u j else S i j) (fun i j => ?_)]
      · exact ih (by omega)
      · by_cases h : i = k
        · subst h; rw [dt_up_s, if_neg (by omega)]
        · rw [dt_up_n _ _ _ h]
  have := ha N (Nat.le_refl N)
  rw [dt_det_congr (C := fun i j => S i j + c i * u j) (fun i j hi _ => by rw [if_pos hi])] at this
  exact this
theorem rk_sgd {q x : Int} {k : Nat} (h : q ∣ dt_sg k * x) : q ∣ x := by
  rcases dt_sg_or k with e | e
  · rw [e, Int.one_mul] at h; exact h
  · rw [e, Int.neg_mul, Int.one_mul] at h; exact (Int.dvd_neg).mp h
theorem rk_piv {q : Int} (hq : rk_P q) {W : Nat → Nat → Int} {p c : Nat} (ha : ¬ q ∣ W p c) (n : Nat) : rk_Z q (n + 1) W ↔ rk_Z q n (rk_S W p c) := by
  constructor
  · intro h ρ γ
    have e := rk_chio W p c n ρ γ
    have h1 : q ∣ W p c ^ n * dt_det (n + 1) (fun i j => W (rk_co p ρ i) (rk_co c γ j)) := rk_dm _ (h _ _)
    rw [← e] at h1
    exact (hq.1 _ _ h1).resolve_left ha
  · intro h ρ γ
    have key := rk_one (q := q) (N := n + 1) (fun i j => rk_S W p c (ρ i) (γ j)) (fun j => W p (γ j)) (fun i => W (ρ i) c) (rk_Z_mono h ρ γ) (fun m hm => by
      refine rk_sgd (k := m) ?_
      rw [← dt_front m _ hm, dt_row0]
      refine dt_sum_dvd (fun j _ => rk_dm _ (rk_dm _ ?_))
      rw [dt_det_ext (C := fun a b => rk_S W p c (ρ (dt_sk m a)) (γ (dt_sk j b))) (fun a b => ?_)]
      · exact h (fun a => ρ (dt_sk m a)) (fun b => γ (dt_sk j b))
      · exact dt_up_n _ _ _ (show dt_sk m a ≠ m by unfold dt_sk; split <;> omega))
    rw [dt_det_ext (C := fun i j => W p c * W (ρ i) (γ j)) (fun i j => by
      show W p c * W (ρ i) (γ j) - W (ρ i) c * W p (γ j) + W (ρ i) c * W p (γ j) = _
      rw [Int.sub_add_cancel]), dt_scale (W p c) (n + 1) (fun i j => W (ρ i) (γ j))] at key
    exact rk_pw hq ha (n + 1) key
/-- the rank of W at q is r -/
def rk_R (q : Int) (W : Nat → Nat → Int) (r : Nat) : Prop := ∀ n, rk_Z q n W ↔ r < n
theorem rk_uni {q : Int} {W : Nat → Nat → Int} {r s : Nat} (h1 : rk_R q W r) (h2 : rk_R q W s) : r = s := by
  have a := (h1 (r + 1)).mpr (by omega)
  have b := (h2 (s + 1)).mpr (by omega)
  have a' := (h2 (r + 1)).mp a
  have b' := (h1 (s + 1)).mp b
  omega
theorem rk_Z0 {q : Int} (hq : rk_P q) (W : Nat → Nat → Int) : ¬ rk_Z q 0 W := fun h => hq.2 (h (fun x => x) (fun x => x))
theorem rk_R_same {q : Int} {W V : Nat → Nat → Int} {r : Nat} (e : ∀ n, rk_Z q n W ↔ rk_Z q n V) (h : rk_R q V r) : rk_R q W r := fun n => (e n).trans (h n)
theorem rk_R_zero {q : Int} (hq : rk_P q) {W : Nat → Nat → Int} (h : ∀ i j, q ∣ W i j) : rk_R q W 0 := by
  intro n
  cases n with
  | zero => exact ⟨fun z => absurd z (rk_Z0 hq W), fun z => absurd z (by omega)⟩
  | succ n =>
    refine ⟨fun _ => by omega, fun _ ρ γ => ?_⟩
    rw [dt_det_s]
    exact dt_sum_dvd (fun i _ => rk_dm _ (by rw [Int.mul_comm]; exact rk_dm _ (h _ _)))
theorem rk_R_S {q : Int} (hq : rk_P q) {W : Nat → Nat → Int} {p c s : Nat} (ha : ¬ q ∣ W p c) (h : rk_R q (rk_S W p c) s) : rk_R q W (s + 1) := by
  intro n
  cases n with
  | zero => exact ⟨fun z => absurd z (rk_Z0 hq W), fun z => absurd z (by omega)⟩
  | succ n => rw [rk_piv hq ha n, h n]; omega
/-- V is the matrix of the two-row minors at p, c but for a factor e -/
theorem rk_R_V {q : Int} (hq : rk_P q) {W V : Nat → Nat → Int} {p c s : Nat} {e : Int} (ha : ¬ q ∣ W p c) (he : ¬ q ∣ e) (hV : ∀ i j, e * V i j = W p c * W i j - W i c * W p j) (h : rk_R q V s) : rk_R q W (s + 1) := by
  refine rk_R_S hq ha (rk_R_same (V := V) (fun n => ?_) h)
  have eq : ∀ ρ γ : Nat → Nat, dt_det n (fun i j => rk_S W p c (ρ i) (γ j)) = e ^ n * dt_det n (fun i j => V (ρ i) (γ j)) := by
    intro ρ γ
    rw [← dt_scale e n (fun i j => V (ρ i) (γ j))]
    exact dt_det_ext (fun i j => (hV (ρ i) (γ j)).symm)
  constructor
  · intro z ρ γ
    have := z ρ γ
    rw [eq] at this
    exact rk_pw hq he n this
  · intro z ρ γ
    rw [eq]
    exact rk_dm _ (z ρ γ)
/-- the same, where V is right but for multiples of q -/
theorem rk_R_m {q : Int} (hq : rk_P q) {W V : Nat → Nat → Int} {p c s : Nat} (ha : ¬ q ∣ W p c) (hV : ∀ i j, q ∣ V i j - (W p c * W i j - W i c * W p j)) (h : rk_R q V s) : rk_R q W (s + 1) := by
  refine rk_R_S hq ha (rk_R_same (V := V) (fun n => ?_) h)
  constructor
  · exact fun z => rk_Z_mod hV z
  · refine fun z => rk_Z_mod (fun i j => ?_) z
    have := hV i j
    have e : rk_S W p c i j - V i j = - (V i j - (W p c * W i j - W i c * W p j)) := by unfold rk_S; omega
    rw [e]
    exact (Int.dvd_neg).mpr this
theorem rk_R_re {q : Int} {W V : Nat → Nat → Int} {r : Nat} (ρ γ ρ' γ' : Nat → Nat) (e : ∀ i j, V i j = W (ρ i) (γ j)) (e' : ∀ i j, W i j = V (ρ' i) (γ' j)) (h : rk_R q V r) : rk_R q W r :=
  rk_R_same (fun _ => ⟨rk_Z_re ρ γ e, rk_Z_re ρ' γ' e'⟩) h
/-! bounds of all minors -/
def rk_M (b : Int) (W : Nat → Nat → Int) : Prop := ∀ (n : Nat) (ρ γ : Nat → Nat), - b ≤ dt_det n (fun i j => W (ρ i) (γ j)) ∧ dt_det n (fun i j => W (ρ i) (γ j)) ≤ b
theorem rk_pne {a : Int} (h : a ≠ 0) : ∀ n : Nat, a ^ n ≠ 0 := by
  intro n
  induction n with
  | zero => rw [Int.pow_zero]; decide
  | succ n ih => rw [Int.pow_succ]; exact Int.mul_ne_zero ih h
theorem rk_D {W V : Nat → Nat → Int} {p c : Nat} (ha : W p c ≠ 0) (hV : ∀ i j, W p c * V i j = W p c * W i j - W i c * W p j) (n : Nat) (ρ γ : Nat → Nat) : dt_det (n + 1) (fun i j => W (rk_co p ρ i) (rk_co c γ j)) = W p c * dt_det n (fun i j => V (ρ i) (γ j)) := by
  have e := rk_chio W p c n ρ γ
  rw [dt_det_ext (B := fun i j => rk_S W p c (ρ i) (γ j)) (C := fun i j => W p c * V (ρ i) (γ j)) (fun i j => (hV (ρ i) (γ j)).symm), dt_scale (W p c) n (fun i j => V (ρ i) (γ j)), Int.mul_left_comm] at e
  exact (Int.eq_of_mul_eq_mul_left (rk_pne ha n) e).symm
theorem rk_1 (B : Nat → Nat → Int) : dt_det 1 B = B 0 0 := by
  show (0 : Int) + 1 * (B 0 0 * 1) = B 0 0
  omega
theorem rk_M_e {b : Int} {W : Nat → Nat → Int} (h : rk_M b W) (i j : Nat) : - b ≤ W i j ∧ W i j ≤ b := by
  have := h 1 (fun _ => i) (fun _ => j)
  rw [rk_1] at this
  exact this
theorem rk_M_tr {b : Int} {W : Nat → Nat → Int} (h : rk_M b W) : rk_M b (fun i j => W j i) := by
  intro n ρ γ
  have := h n γ ρ
  rw [← dt_tr] at this
  exact this
theorem rk_M_unit {b : Int} {W V : Nat → Nat → Int} {p c : Nat} (hu : W p c = 1 ∨ W p c = -1) (hV : ∀ i j, W p c * V i j = W p c * W i j - W i c * W p j) (h : rk_M b W) : rk_M b V := by
  intro n ρ γ
  have e := rk_D (by omega) hV n ρ γ
  have := h (n + 1) (rk_co p ρ) (rk_co c γ)
  rw [e] at this
  rcases hu with u | u <;> rw [u] at this <;> omega
theorem rk_zr (W : Nat → Nat → Int) (p : Nat) {n : Nat} {ρ γ : Nat → Nat} (h : ∀ i, i < n → ρ i ≠ p) : dt_det n (fun i j => W (ρ i) (γ j)) = dt_det n (fun i j => (fun x y => if x = p then 0 else W x y) (ρ i) (γ j)) :=
  dt_det_congr (fun i j hi _ => by show _ = if ρ i = p then 0 else W (ρ i) (γ j); rw [if_neg (h i hi)])
theorem rk_abs {b x : Int} {k : Nat} (h : - b ≤ dt_sg k * x ∧ dt_sg k * x ≤ b) : - b ≤ x ∧ x ≤ b := by
  rcases dt_sg_or k with e | e <;> rw [e] at h <;> omega
/-- a row p and a column c: without p, without c, or with both -/
theorem rk_M_back {b b' : Int} {W V : Nat → Nat → Int} {p c : Nat} (hu : W p c = 1 ∧ b' ≤ b ∨ W p c = -1 ∧ b' ≤ b ∨ W p c = 2 ∧ 2 * b' ≤ b ∨ W p c = -2 ∧ 2 * b' ≤ b) (hV : ∀ i j, W p c * V i j = W p c * W i j - W i c * W p j) (h1 : rk_M b (fun i j => if i = p then 0 else W i j)) (h2 : rk_M b (fun i j => if j = c then 0 else W i j)) (h3 : rk_M b' V) : rk_M b W := by
  intro n ρ γ
  by_cases hr : ∀ i, i < n → ρ i ≠ p
  · rw [dt_det_congr (C := fun i j => (fun x y => if x = p then 0 else W x y) (ρ i) (γ j)) (fun i j hi _ => by show _ = if ρ i = p then 0 else W (ρ i) (γ j); rw [if_neg (hr i hi)])]
    exact h1 n ρ γ
  by_cases hc : ∀ j, j < n → γ j ≠ c
  · rw [dt_det_congr (C := fun i j => (fun x y => if y = c then 0 else W x y) (ρ i) (γ j)) (fun i j _ hj => by show _ = if γ j = c then 0 else W (ρ i) (γ j); rw [if_neg (hc j hj)])]
    exact h2 n ρ γ
  obtain ⟨i0, hi⟩ := Classical.not_forall.mp hr
  obtain ⟨j0, hj⟩ := Classical.not_forall.mp hc
  have hi1 : i0 < n := Classical.byContradiction fun z => hi fun y => absurd y z
  have hj1 : j0 < n := Classical.byContradiction fun z => hj fun y => absurd y z
  have hip : ρ i0 = p := Classical.byContradiction fun z => hi fun _ => z
  have hjc : γ j0 = c := Classical.byContradiction fun z => hj fun _ => z
  refine rk_abs (k := i0) (rk_abs (k := j0) ?_)
  rw [← dt_front i0 (fun i j => W (ρ i) (γ j)) hi1, ← dt_frontc (fun a j => W (ρ (dt_fr i0 a)) (γ j)) hj1]
  obtain ⟨m, rfl⟩ : ∃ m, n = m + 1 := ⟨n - 1, by omega⟩
  have e : dt_det (m + 1) (fun a b => W (ρ (dt_fr i0 a)) (γ (dt_fr j0 b))) = dt_det (m + 1) (fun i j => W (rk_co p (fun a => ρ (dt_sk i0 a)) i) (rk_co c (fun a => γ (dt_sk j0 a)) j)) := by
    refine dt_det_ext (fun a b => ?_)
    have ea : ρ (dt_fr i0 a) = rk_co p (fun a => ρ (dt_sk i0 a)) a := by cases a with
      | zero => exact hip
      | succ a => rfl
    have eb : γ (dt_fr j0 b) = rk_co c (fun a => γ (dt_sk j0 a)) b := by cases b with
      | zero => exact hjc
      | succ a => rfl
    rw [ea, eb]
  rw [e, rk_D (by omega) hV]
  have := h3 m (fun a => ρ (dt_sk i0 a)) (fun a => γ (dt_sk j0 a))
  rcases hu with ⟨u, w⟩ | ⟨u, w⟩ | ⟨u, w⟩ | ⟨u, w⟩ <;> rw [u] <;> omega
/-- rows taken anew, each with a factor 1, -1 or 0 -/
theorem rk_M_rows {b : Int} {W V : Nat → Nat → Int} (e : Nat → Int) (ρ0 : Nat → Nat) (he : ∀ i, e i = 1 ∨ e i = -1 ∨ e i = 0) (hV : ∀ i j, V i j = e i * W (ρ0 i) j) (h : rk_M b W) : rk_M b V := by
  intro n ρ γ
  have b1 := h 0 (fun x => x) (fun x => x)
  have hb : (1 : Int) ≤ b := b1.2
  have key : ∀ k, k ≤ n → ∃ s : Int, (s = 1 ∨ s = -1 ∨ s = 0) ∧ dt_det n (fun i j => if i < k then V (ρ i) (γ j) else W (ρ0 (ρ i)) (γ j)) = s * dt_det n (fun i j => W (ρ0 (ρ i)) (γ j)) := by
    intro k
    induction k with
    | zero =>
      intro _
      refine ⟨1, Or.inl rfl, ?_⟩
      rw [Int.one_mul]
      exact dt_det_ext (fun i j => by rw [if_neg (by omega)])
    | succ k ih =>
      intro hk
      obtain ⟨s, hs, es⟩ := ih (by omega)
      refine ⟨e (ρ k) * s, ?_, ?_⟩
      · rcases hs with u | u | u <;> rcases he (ρ k) with w | w | w <;> rw [u, w] <;> decide
      · rw [Int.mul_assoc, ← es]
        have l := dt_lin_mul (n := n) (fun i j => if i < k then V (ρ i) (γ j) else W (ρ0 (ρ i)) (γ j)) (fun j => W (ρ0 (ρ k)) (γ j)) (e (ρ k)) (k := k) (by omega)
        rw [dt_det_ext (B := dt_up (fun i j => if i < k then V (ρ i) (γ j) else W (ρ0 (ρ i)) (γ j)) k (fun j => W (ρ0 (ρ k)) (γ j))) (C := fun i j => if i < k then V (ρ i) (γ j) else W (ρ0 (ρ i)) (γ j)) (fun i j => by
          by_cases hik : i = k
          · subst hik; rw [dt_up_s, if_neg (by omega)]
          · rw [dt_up_n _ _ _ hik])] at l
        rw [← l]
        refine dt_det_ext (fun i j => ?_)
        by_cases hik : i = k
        · subst hik; rw [dt_up_s, if_pos (by omega), hV]
        · rw [dt_up_n _ _ _ hik]
          by_cases h2 : i < k
          · rw [if_pos (by omega), if_pos h2]
          · rw [if_neg (by omega), if_neg h2]
  obtain ⟨s, hs, es⟩ := key n (Nat.le_refl n)
  rw [dt_det_congr (B := fun i j => V (ρ i) (γ j)) (C := fun i j => if i < n then V (ρ i) (γ j) else W (ρ0 (ρ i)) (γ j)) (fun i j hi _ => by rw [if_pos hi]), es]
  have := h n (fun i => ρ0 (ρ i)) γ
  rcases hs with u | u | u <;> rw [u] <;> omega
theorem rk_M_cols {b : Int} {W V : Nat → Nat → Int} (e : Nat → Int) (γ0 : Nat → Nat) (he : ∀ i, e i = 1 ∨ e i = -1 ∨ e i = 0) (hV : ∀ i j, V i j = e j * W i (γ0 j)) (h : rk_M b W) : rk_M b V :=
  rk_M_tr (rk_M_rows (V := fun i j => V j i) e γ0 he (fun i j => hV j i) (rk_M_tr h))
/-- elimination without fractions: every n-minor is d^(n-1) times a small number -/
def rk_Q (d : Int) (W : Nat → Nat → Int) : Prop := ∀ (n : Nat) (ρ γ : Nat → Nat), ∃ m : Int, -2 ≤ m ∧ m ≤ 2 ∧ dt_det (n + 1) (fun i j => W (ρ i) (γ j)) = d ^ n * m
theorem rk_Q_1 {W : Nat → Nat → Int} (h : rk_M 2 W) : rk_Q 1 W := by
  intro n ρ γ
  have := h (n + 1) ρ γ
  exact ⟨_, this.1, this.2, by rw [Int.one_pow, Int.one_mul]⟩
theorem rk_Q_e {d : Int} {W : Nat → Nat → Int} (h : rk_Q d W) (i j : Nat) : -2 ≤ W i j ∧ W i j ≤ 2 := by
  obtain ⟨m, h1, h2, e⟩ := h 0 (fun _ => i) (fun _ => j)
  rw [rk_1, Int.pow_zero, Int.one_mul] at e
  rw [e]
  exact ⟨h1, h2⟩
theorem rk_2 (B : Nat → Nat → Int) : dt_det 2 B = B 0 0 * B 1 1 - B 1 0 * B 0 1 := by
  have := dt_chio 1 B
  rw [rk_1, Int.pow_succ, Int.pow_zero, Int.one_mul] at this
  by_cases h : B 0 0 = 0
  · show (0 : Int) + 1 * (B 0 0 * (0 + 1 * (B 1 1 * 1))) + (-1) * (B 1 0 * (0 + 1 * (B 0 1 * 1))) = _
    rw [h]; grind
  · exact (Int.eq_of_mul_eq_mul_left h this).symm
theorem rk_Q_2 {d : Int} {W : Nat → Nat → Int} (h : rk_Q d W) (p c i j : Nat) : ∃ m : Int, -2 ≤ m ∧ m ≤ 2 ∧ W p c * W i j - W i c * W p j = d * m := by
  obtain ⟨m, h1, h2, e⟩ := h 1 (fun a => if a = 0 then p else i) (fun a => if a = 0 then c else j)
  rw [rk_2, Int.pow_succ, Int.pow_zero, Int.one_mul] at e
  exact ⟨m, h1, h2, e⟩
theorem rk_Q_step {d : Int} {W V : Nat → Nat → Int} {p c : Nat} (hd : d ≠ 0) (ha : W p c ≠ 0) (hV : ∀ i j, d * V i j = W p c * W i j - W i c * W p j) (h : rk_Q d W) : rk_Q (W p c) V := by
  intro n ρ γ
  obtain ⟨m, h1, h2, e⟩ := h (n + 1) (rk_co p ρ) (rk_co c γ)
  refine ⟨m, h1, h2, ?_⟩
  have k := rk_chio W p c (n + 1) ρ γ
  rw [dt_det_ext (B := fun i j => rk_S W p c (ρ i) (γ j)) (C := fun i j => d * V (ρ i) (γ j)) (fun i j => (hV (ρ i) (γ j)).symm), dt_scale d (n + 1) (fun i j => V (ρ i) (γ j)), e] at k
  generalize dt_det (n + 1) (fun i j => V (ρ i) (γ j)) = x at *
  refine Int.eq_of_mul_eq_mul_left (a := W p c * d ^ (n + 1)) (Int.mul_ne_zero ha (rk_pne hd _)) ?_
  rw [Int.mul_assoc, k, Int.pow_succ (W p c)]
  generalize W p c ^ n = y
  generalize d ^ (n + 1) = z
  grind
