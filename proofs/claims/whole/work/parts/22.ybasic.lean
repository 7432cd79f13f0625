/-! the reference: ranges, degree, size -/
theorem ys_3 {p : Int32} (h0 : ¬ p < 0) (h : 4 ≤ p) : (3 : Int32) < p := by
  obtain ⟨j, hj, rfl⟩ := nI_of h0
  exact nI_lt (a := 3) (by
    have := (nI_leI (a := 4) (by decide) hj).mp h
    omega) hj
theorem ys_reg_bad {post : Int32 → Prop} {v : SY} {p : Int32} (h : p < 0 ∨ 4 ≤ p) (hp : post 0) : wpY_isRegister post v p := by
  obtain ⟨rw, cl, has, now, pl, ta, si⟩ := v
  by_cases h0 : p < 0
  · exact br_t h0 ⟨nb_0, hp⟩
  · exact br_f h0 (br_t (ys_3 h0 (h.resolve_left h0)) ⟨nb_0, hp⟩)
theorem ys_reg {post : Int32 → Prop} {v : SY} {j : Nat} (h : j < 4) (hp : post 1) : wpY_isRegister post v (nI j) := by
  obtain ⟨rw, cl, has, now, pl, ta, si⟩ := v
  exact br_f (nI_pos (by omega)) (br_f (fun z => absurd ((nI_ltI (a := 3) (by decide) (by omega)).mp z) (by omega)) ⟨nb_1, hp⟩)
theorem ys_in_bad {post : Int32 → Prop} {v : SY} {p lo hi : Int32} (h : p < lo ∨ hi < p) (hp : post 0) : wpY_in post v p lo hi := by
  obtain ⟨rw, cl, has, now, pl, ta, si⟩ := v
  by_cases h0 : p < lo
  · exact br_t h0 hp
  · exact br_f h0 (br_t (h.resolve_left h0) hp)
theorem ys_in {post : Int32 → Prop} {v : SY} {p lo hi : Int32} (h1 : ¬ p < lo) (h2 : ¬ hi < p) (hp : post 1) : wpY_in post v p lo hi := by
  obtain ⟨rw, cl, has, now, pl, ta, si⟩ := v
  exact br_f h1 (br_f h2 hp)
theorem ys_set {post : Int32 → Prop} {v : SY} {j : Nat} (h1 : 1 ≤ j) (h : j < 64) (hp : post 1) : wpY_in post v (nI j) 1 63 := ys_in (nI_nlt (b := 1) h1 (by omega)) (xs_gt h) hp
theorem ys_dg {post : Int32 → Prop} {v : SY} {j : Nat} (h : j < 6) (hp : post 1) : wpY_in post v (nI j) 0 5 := ys_in (nI_pos (by omega)) (fun z => absurd ((nI_ltI (a := 5) (by decide) (by omega)).mp z) (by omega)) hp
theorem ys_bit : ∀ s, s < 64 → ∀ v, v < 6 → (nI (ed_pc (s % 2 ^ v)) - 1) + ((nI s >>> (nI v &&& 31)) &&& 1) = nI (ed_pc (s % 2 ^ (v + 1))) - 1 := by decide +kernel
theorem ys_lt6 {i : Nat} (h : i < 6) : ¬ (6 : Int32) ≤ nI i := nI_ge (b := 6) h (by decide)
theorem ys_ge6 : (6 : Int32) ≤ nI 6 := nI_le (a := 6) (b := 6) (by omega) (by decide)
theorem ys_lt64 {i : Nat} (h : i < 64) : ¬ (64 : Int32) ≤ nI i := nI_ge (b := 64) h (by decide)
theorem ys_ge64 : (64 : Int32) ≤ nI 64 := nI_le (a := 64) (b := 64) (by omega) (by decide)
theorem ys_degree {post : Int32 → Prop} {v : SY} {s : Nat} (hs : s < 64) (hp : post (nI (ed_pc s) - 1)) : wpY_degree post v (nI s) := by
  obtain ⟨rw, cl, has, now, pl, ta, si⟩ := v
  have l : ∀ d i, i + d = 6 → wY_degree_4 post (nI s) rw cl has now pl ta si (d + 1) (nI (ed_pc (s % 2 ^ i)) - 1) (nI i) := by
    intro d
    induction d with
    | zero =>
      intro i hi
      have e : i = 6 := by omega
      subst e
      refine br_t ys_ge6 ?_
      rw [show s % 2 ^ 6 = s from Nat.mod_eq_of_lt hs]
      exact hp
    | succ d ih =>
      intro i hi
      refine br_f (ys_lt6 (by omega)) (fun y ey z ez => ?_)
      rw [ey, ez, ys_bit s hs i (by omega), nI_1]
      exact ih (i + 1) (by omega)
  have := l 6 0 rfl
  rw [show s % 2 ^ 0 = 0 from Nat.mod_one s] at this
  exact ⟨7, this⟩
theorem ys_dk : ∀ a, a < 7 → ∀ k, k < 8 → (nI a - 1 = nI k ↔ a = k + 1) := by decide +kernel
theorem ys_dk1 : ∀ a, a < 7 → ∀ k, k < 8 → (nI a - 1 = nI k - 1 ↔ a = k) := by decide +kernel
theorem ys_ix (r s : Nat) : (64 : Int32) * nI r + nI s = nI (64 * r + s) := by
  show nI 64 * nI r + nI s = _
  rw [show nI 64 * nI r = nI (64 * r) from (Int32.ofNat_mul 64 r).symm, nI_add]
theorem ys_vi {r s : Nat} (hr : r < 4) (hs : s < 64) : vp_in (nI (64 * r + s)) 256 := vp_in_nI (by omega) (by decide)
theorem ys_cl {r s : Nat} (hr : r < 4) (hs : s < 64) : (nI (64 * r + s)).toNatClampNeg = 64 * r + s := nI_clamp (by omega)
/-- has holds the family b in register r -/
def ys_H (has : Nat → Int32) (r : Nat) (b : Nat → Bool) : Prop := ∀ s, 1 ≤ s → s < 64 → has (64 * r + s) = if b s = true then 1 else 0
theorem ys_H0 {has : Nat → Int32} {r s : Nat} {b : Nat → Bool} (h : ys_H has r b) (h1 : 1 ≤ s) (hs : s < 64) : has (64 * r + s) = 0 ↔ b s = false := by
  rw [h s h1 hs]
  cases b s
  · exact ⟨fun _ => rfl, fun _ => rfl⟩
  · exact ⟨fun z => absurd z (by decide), fun z => absurd z (by decide)⟩
/-- a question to has -/
theorem ys_ask {has : Nat → Int32} {r s : Nat} {b : Nat → Bool} {A B : Prop} (hr : r < 4) (h1 : 1 ≤ s) (hs : s < 64) (h : ys_H has r b) (hf : b s = false → A) (ht : b s = true → B) : vp_in ((64 : Int32) * nI r + nI s) 256 ∧ ((has ((64 : Int32) * nI r + nI s).toNatClampNeg = 0 → A) ∧ (¬ has ((64 : Int32) * nI r + nI s).toNatClampNeg = 0 → B)) := by
  rw [ys_ix, ys_cl hr hs]
  refine ⟨ys_vi hr hs, ?_⟩
  cases hb : b s
  · exact br_t ((ys_H0 h h1 hs).mpr hb) (hf hb)
  · exact br_f (fun z => by rw [(ys_H0 h h1 hs).mp z] at hb; exact absurd hb (by decide)) (ht hb)
theorem ys_size {post : Int32 → Prop} {rw cl : Int32} {has now pl si : Nat → Int32} {ta : Nat → Int64} {r : Nat} {b : Nat → Bool} (hr : r < 4) (h : ys_H has r b) (b0 : b 0 = false) (hp : post (nI (cn_c b 64))) : wpY_size post (rw, cl, has, now, pl, ta, si) (nI r) := by
  have l : ∀ d s, s + d = 64 → 1 ≤ s → wY_size_4 post (nI r) rw cl has now pl ta si (d + 1) (nI (cn_c b s)) (nI s) := by
    intro d
    induction d with
    | zero =>
      intro s hs _
      have e : s = 64 := by omega
      subst e
      exact br_t ys_ge64 hp
    | succ d ih =>
      intro s hs h1
      have hn := ih (s + 1) (by omega) (by omega)
      rw [cn_s] at hn
      refine br_f (ys_lt64 (by omega)) (ys_ask hr h1 (by omega) h (fun hb => ?_) (fun hb => ?_))
      · intro y ey
        rw [hb] at hn
        rw [ey, nI_1]
        exact hn
      · intro y ey z ez
        rw [hb] at hn
        rw [ey, ez, nI_1, nI_1]
        exact hn
  have := l 63 1 rfl (by omega)
  rw [cn_s, b0] at this
  exact ⟨64, this⟩
/-! (s & ~set) == 0 -/
theorem ys_sub : ∀ a, a < 64 → ∀ b, b < 64 → ((nI a &&& (nI b ^^^ (-1))) = 0 ↔ a &&& b = a) := by decide +kernel
theorem ys_add {post : Int32 → SY → Prop} {rw cl : Int32} {has now pl si : Nat → Int32} {ta : Nat → Int64} {r w : Nat} (hr : r < 4) (hw : w < 64) (hp : ∀ has', (∀ i, (∀ s, s < 64 → i ≠ 64 * r + s) → has' i = has i) → (∀ s, 1 ≤ s → s < 64 → has' (64 * r + s) = if xs_ap w s = true then 1 else has (64 * r + s)) → wpY_size (fun c => post c (rw, cl, has', now, pl, ta, si)) (rw, cl, has', now, pl, ta, si) (nI r)) : ∃ n, wY_add_23 post (nI r) (nI w) rw cl n 1 has now pl ta si := by
  have l : ∀ d s has', s + d = 64 → 1 ≤ s → (∀ i, (∀ s, s < 64 → i ≠ 64 * r + s) → has' i = has i) → (∀ t, 1 ≤ t → t < 64 → has' (64 * r + t) = if t < s ∧ xs_ap w t = true then 1 else has (64 * r + t)) → wY_add_23 post (nI r) (nI w) rw cl (d + 1) (nI s) has' now pl ta si := by
    intro d
    induction d with
    | zero =>
      intro s has' hs _ h1 h2
      have e : s = 64 := by omega
      subst e
      refine br_t ys_ge64 (hp has' h1 (fun t t1 t2 => ?_))
      rw [h2 t t1 t2]
      by_cases e : xs_ap w t = true
      · rw [if_pos ⟨t2, e⟩, if_pos e]
      · rw [if_neg (fun z => e z.2), if_neg e]
    | succ d ih =>
      intro s has' hs h0 h1 h2
      refine br_f (ys_lt64 (by omega)) ?_
      by_cases e : s &&& w = s
      · have ha : xs_ap w s = true := by unfold xs_ap; simp [h0, e]
        refine br_t ((ys_sub s (by omega) w hw).mpr e) ?_
        rw [ys_ix, ys_cl hr (by omega), nb_v1]
        refine ⟨ys_vi hr (by omega), fun y ey z ez => ?_⟩
        rw [ey, ez, nI_1]
        refine ih (s + 1) _ (by omega) (by omega) (fun i hi => by rw [xs_un (hi s (by omega)), h1 i hi]) (fun t t1 t2 => ?_)
        by_cases ets : t = s
        · subst ets
          rw [xs_us, if_pos ⟨by omega, ha⟩]
        · rw [xs_un (by omega), h2 t t1 t2]
          by_cases q : t < s ∧ xs_ap w t = true
          · rw [if_pos q, if_pos ⟨by omega, q.2⟩]
          · rw [if_neg q, if_neg (fun z => q ⟨by omega, z.2⟩)]
      · have ha : ¬ xs_ap w s = true := by unfold xs_ap; simp [e]
        refine br_f (fun z => e ((ys_sub s (by omega) w hw).mp z)) (fun y ey => ?_)
        rw [ey, nI_1]
        refine ih (s + 1) _ (by omega) (by omega) h1 (fun t t1 t2 => ?_)
        rw [h2 t t1 t2]
        by_cases ets : t = s
        · subst ets
          rw [if_neg (fun z => ha z.2), if_neg (fun z => ha z.2)]
        · by_cases q : t < s ∧ xs_ap w t = true
          · rw [if_pos q, if_pos ⟨by omega, q.2⟩]
          · rw [if_neg q, if_neg (fun z => q ⟨by omega, z.2⟩)]
  exact ⟨64, l 63 1 has rfl (by omega) (fun _ _ => rfl) (fun t t1 _ => by rw [if_neg (by omega)])⟩
theorem ys_take {post : Int32 → SY → Prop} {rw cl : Int32} {has now pl si : Nat → Int32} {ta : Nat → Int64} {r w : Nat} (hr : r < 4) (hw : w < 64) (hp : ∀ has', (∀ i, (∀ s, s < 64 → i ≠ 64 * r + s) → has' i = has i) → (∀ s, 1 ≤ s → s < 64 → has' (64 * r + s) = if w &&& s = w then 0 else has (64 * r + s)) → wpY_size (fun c => post c (rw, cl, has', now, pl, ta, si)) (rw, cl, has', now, pl, ta, si) (nI r)) : ∃ n, wY_take_23 post (nI r) (nI w) rw cl n 1 has now pl ta si := by
  have l : ∀ d s has', s + d = 64 → 1 ≤ s → (∀ i, (∀ s, s < 64 → i ≠ 64 * r + s) → has' i = has i) → (∀ t, 1 ≤ t → t < 64 → has' (64 * r + t) = if t < s ∧ w &&& t = w then 0 else has (64 * r + t)) → wY_take_23 post (nI r) (nI w) rw cl (d + 1) (nI s) has' now pl ta si := by
    intro d
    induction d with
    | zero =>
      intro s has' hs _ h1 h2
      have e : s = 64 := by omega
      subst e
      refine br_t ys_ge64 (hp has' h1 (fun t t1 t2 => ?_))
      rw [h2 t t1 t2]
      by_cases e : w &&& t = w
      · rw [if_pos ⟨t2, e⟩, if_pos e]
      · rw [if_neg (fun z => e z.2), if_neg e]
    | succ d ih =>
      intro s has' hs h0 h1 h2
      refine br_f (ys_lt64 (by omega)) ?_
      by_cases e : w &&& s = w
      · refine br_t ((ys_sub w hw s (by omega)).mpr e) ?_
        rw [ys_ix, ys_cl hr (by omega), nb_v0]
        refine ⟨ys_vi hr (by omega), fun y ey z ez => ?_⟩
        rw [ey, ez, nI_1]
        refine ih (s + 1) _ (by omega) (by omega) (fun i hi => by rw [xs_un (hi s (by omega)), h1 i hi]) (fun t t1 t2 => ?_)
        by_cases ets : t = s
        · subst ets
          rw [xs_us, if_pos ⟨by omega, e⟩]
        · rw [xs_un (by omega), h2 t t1 t2]
          by_cases q : t < s ∧ w &&& t = w
          · rw [if_pos q, if_pos ⟨by omega, q.2⟩]
          · rw [if_neg q, if_neg (fun z => q ⟨by omega, z.2⟩)]
      · refine br_f (fun z => e ((ys_sub w hw s (by omega)).mp z)) (fun y ey => ?_)
        rw [ey, nI_1]
        refine ih (s + 1) _ (by omega) (by omega) h1 (fun t t1 t2 => ?_)
        rw [h2 t t1 t2]
        by_cases ets : t = s
        · subst ets
          rw [if_neg (fun z => e z.2), if_neg (fun z => e z.2)]
        · by_cases q : t < s ∧ w &&& t = w
          · rw [if_pos q, if_pos ⟨by omega, q.2⟩]
          · rw [if_neg q, if_neg (fun z => q ⟨by omega, z.2⟩)]
  exact ⟨64, l 63 1 has rfl (by omega) (fun _ _ => rfl) (fun t t1 _ => by rw [if_neg (by omega)])⟩
/-! keep -/
theorem ys_keep {post : SY → Prop} {rw cl : Int32} {has now pl si : Nat → Int32} {ta : Nat → Int64} {r : Nat} {b : Nat → Bool} (hr : r < 4) (hn : ∀ s, 1 ≤ s → s < 64 → now s = if b s = true then 1 else 0) (hp : ∀ has', (∀ i, (∀ s, s < 64 → i ≠ 64 * r + s) → has' i = has i) → ys_H has' r b → post (rw, cl, has', now, pl, ta, si)) : wpY_keep post (rw, cl, has, now, pl, ta, si) (nI r) := by
  have l : ∀ d s has', s + d = 64 → 1 ≤ s → (∀ i, (∀ s, s < 64 → i ≠ 64 * r + s) → has' i = has i) → (∀ t, 1 ≤ t → t < s → has' (64 * r + t) = if b t = true then 1 else 0) → wY_keep_2 post (nI r) rw cl (d + 1) (nI s) has' now pl ta si := by
    intro d
    induction d with
    | zero =>
      intro s has' hs _ h1 h2
      have e : s = 64 := by omega
      subst e
      exact br_t ys_ge64 (hp has' h1 h2)
    | succ d ih =>
      intro s has' hs h0 h1 h2
      refine br_f (ys_lt64 (by omega)) ⟨vp_in_nI (by omega) (by decide), ?_⟩
      rw [ys_ix, ys_cl hr (by omega), xs_cl (by omega)]
      refine ⟨ys_vi hr (by omega), fun y ey z ez => ?_⟩
      rw [ey, ez, nI_1]
      refine ih (s + 1) _ (by omega) (by omega) (fun i hi => by rw [xs_un (hi s (by omega)), h1 i hi]) (fun t t1 t2 => ?_)
      by_cases ets : t = s
      · subst ets
        rw [xs_us, hn t t1 (by omega)]
        cases b t
        · exact nb_v0
        · exact nb_v1
      · rw [xs_un (by omega)]
        exact h2 t t1 (by omega)
  exact ⟨64, l 63 1 has rfl (by omega) (fun _ _ => rfl) (fun t t1 t2 => by omega)⟩
