/-! the relation -/
def re_C (h : Int64) : Prop := mk_b h 0 = false ∧ ∀ s t, 1 ≤ s → t < 64 → s &&& t = s → mk_b h t = true → mk_b h s = true
def re_R (lev : Int32) (held : Nat → Int64) (place has : Nat → Int32) : Prop := (lev = 0 ∨ lev = 1) ∧ (∀ s, 1 ≤ s → s < 64 → place s = nI (st_pl s)) ∧ ∀ r, r < 4 → re_C (held r) ∧ ys_H has r (mk_b (held r))
def i_Rel (_ : Nat) (u : SX) (v : SY) : Prop := re_R u.1 u.2.1 u.2.2.1 v.2.2.1
theorem i_up {k : Nat} {u : SX} {v : SY} (h : i_Rel k u v) : i_Rel (k + 5) u v := h
theorem re_lt {s t : Nat} (ht : t < 64) (h : s &&& t = s) : s < 64 := by
  have := @Nat.and_le_right s t
  omega
theorem re_Cof {h : Int64} (b : Nat → Bool) (hb : ∀ t, t < 64 → mk_b h t = b t) (b0 : b 0 = false) (hc : ∀ s t, 1 ≤ s → s < 64 → t < 64 → s &&& t = s → b t = true → b s = true) : re_C h := by
  refine ⟨by rw [hb 0 (by omega)]; exact b0, fun s t h1 ht hst hm => ?_⟩
  have hs := re_lt ht hst
  rw [hb s hs]
  rw [hb t ht] at hm
  exact hc s t h1 hs ht hst hm
theorem re_upd {lev : Int32} {held held' : Nat → Int64} {place has has' : Nat → Int32} {r : Nat} (I : re_R lev held place has) (e1 : ∀ q, q ≠ r → held' q = held q) (f1 : ∀ i, (∀ s, s < 64 → i ≠ 64 * r + s) → has' i = has i) (hc : re_C (held' r)) (hh : ys_H has' r (mk_b (held' r))) : re_R lev held' place has' := by
  refine ⟨I.1, I.2.1, fun q hq => ?_⟩
  by_cases e : q = r
  · subst e; exact ⟨hc, hh⟩
  · rw [e1 q e]
    refine ⟨(I.2.2 q hq).1, fun s s1 s2 => ?_⟩
    rw [f1 (64 * q + s) (fun t ht => by omega)]
    exact (I.2.2 q hq).2 s s1 s2
theorem re_tr {s t w : Nat} (h1 : s &&& t = s) (h2 : t &&& w = t) : s &&& w = s := by
  rw [← h1, Nat.and_assoc, h2]
/-! the constructors -/
theorem xs_place {post : Int32 → Prop} {s : Nat} (hs : s < 64) (hs1 : 1 ≤ s) (hp : post (nI (st_pl s))) : wpX_placeInDegree post (nI s) := by
  unfold wpX_placeInDegree
  refine xs_pc hs ?_
  have l : ∀ d i, i + d = s → 1 ≤ i → wX_placeInDegree_10 post (nI s) (nI (ed_pc s)) (d + 1) (nI (cn_c (fun x => decide (1 ≤ x) && decide (ed_pc x = ed_pc s)) i)) (nI i) := by
    intro d
    induction d with
    | zero =>
      intro i hi _
      have e : i = s := by omega
      subst e
      exact br_t (nI_le (Nat.le_refl i) (by omega)) hp
    | succ d ih =>
      intro i hi h1
      have hn := ih (i + 1) (by omega) (by omega)
      rw [cn_s] at hn
      have p1 := ed_pc_le i
      have p2 := ed_pc_le s
      refine br_f (nI_ge (by omega) (by omega)) (xs_pc (by omega) ?_)
      by_cases e : ed_pc i = ed_pc s
      · refine br_t (by rw [e]) (fun y ey z ez => ?_)
        rw [show (decide (1 ≤ i) && decide (ed_pc i = ed_pc s)) = true by simp [h1, e]] at hn
        rw [ey, ez, nI_1, nI_1]
        exact hn
      · refine br_f (fun z => e ((nI_eq (by omega) (by omega)).mp z)) (fun y ey => ?_)
        rw [show (decide (1 ≤ i) && decide (ed_pc i = ed_pc s)) = false by simp [e]] at hn
        rw [ey, nI_1]
        exact hn
  exact ⟨s - 1 + 1, l (s - 1) 1 (by omega) (by omega)⟩
theorem i_vc0 : wpX_init (fun u => wpY_init (fun v => i_Rel 0 u v)) := by
  have l : ∀ d s place, s + d = 64 → 1 ≤ s → (∀ t, 1 ≤ t → t < s → place t = nI (st_pl t)) → wX_init_35 (fun u => wpY_init (fun v => i_Rel 0 u v)) 1 (d + 1) (nI s) (fun _ => 0) place (fun _ => 0) := by
    intro d
    induction d with
    | zero =>
      intro s place hs _ h
      have e : s = 64 := by omega
      subst e
      refine br_t xs_gt64 ?_
      show re_R 1 (fun _ => 0) place (fun _ => 0)
      refine ⟨Or.inr rfl, h, fun r _ => ⟨⟨mk_0 0, fun s t _ _ _ z => ?_⟩, fun s _ _ => ?_⟩⟩
      · exact absurd (show mk_b 0 t = true from z) (by rw [mk_0]; decide)
      · show (0 : Int32) = if mk_b 0 s = true then 1 else 0
        rw [mk_0]; rfl
    | succ d ih =>
      intro s place hs h1 h
      refine br_f (xs_gt (by omega)) (xs_place (by omega) h1 ⟨vp_in_nI (by omega) (by decide), fun y ey z ez => ?_⟩)
      rw [ey, ez, nI_1, xs_cl (by omega)]
      refine ih (s + 1) _ (by omega) (by omega) (fun t t1 t2 => ?_)
      by_cases e : t = s
      · subst e; rw [xs_us]
      · rw [xs_un e]; exact h t t1 (by omega)
  exact ⟨64, l 63 1 _ rfl (by omega) (fun t t1 t2 => by omega)⟩
/-! add, take, has, count, level -/
theorem i_vc_add {k : Nat} {u : SX} {v : SY} (I : i_Rel k u v) (hk : k + 5 ≤ 2560) (v1 : Int32) (v2 : Int32) : wpX_add (fun r u' => wpY_add (fun r' v' => r' = r ∧ i_Rel (k + 5) u' v') v v1 v2) u v1 v2 := by
  obtain ⟨lev, held, place, cells⟩ := u
  obtain ⟨rw, cl, has, now, pl, ta, si⟩ := v
  have I : re_R lev held place has := I
  unfold wpX_add wpY_add
  dsimp only
  rcases rg_cases v1 with hb | ⟨r, hr, rfl⟩
  · exact xs_reg_bad hb (br_t rfl (ys_reg_bad hb (br_t rfl ⟨rfl, I⟩)))
  refine xs_reg hr (br_f (by decide) ?_)
  rcases rg_set v2 with hb | ⟨w, h1, hw, rfl⟩
  · exact xs_set_bad hb (br_t rfl (ys_reg hr (br_f (by decide) (ys_in_bad hb (br_t rfl ⟨rfl, I⟩)))))
  refine xs_set h1 hw (br_f (by decide) (xs_add hr hw (fun held' e1 e2 => ?_)))
  refine ys_reg hr (br_f (by decide) (ys_set h1 hw (br_f (by decide) (ys_add hr hw (fun has' f1 f2 => ?_)))))
  have J := I.2.2 r hr
  have hc : re_C (held' r) := re_Cof _ e2 (by rw [J.1.1]; unfold xs_ap; simp) (fun s t h1 hs ht hst z => by
    rw [Bool.or_eq_true] at z ⊢
    rcases z with z | z
    · exact Or.inl (J.1.2 s t h1 ht hst z)
    · right
      unfold xs_ap at z ⊢
      rw [Bool.and_eq_true, decide_eq_true_iff, decide_eq_true_iff] at z ⊢
      exact ⟨h1, re_tr hst z.2⟩)
  have hH : ys_H has' r (mk_b (held' r)) := by
    intro s s1 s2
    rw [f2 s s1 s2, e2 s s2]
    cases hx : xs_ap w s
    · rw [if_neg (by decide), Bool.or_false]; exact J.2 s s1 s2
    · rw [if_pos rfl, Bool.or_true, if_pos rfl]
  exact ys_size hr hH hc.1 ⟨rfl, re_upd I e1 f1 hc hH⟩
theorem i_vc_take {k : Nat} {u : SX} {v : SY} (I : i_Rel k u v) (hk : k + 5 ≤ 2560) (v1 : Int32) (v2 : Int32) : wpX_take (fun r u' => wpY_take (fun r' v' => r' = r ∧ i_Rel (k + 5) u' v') v v1 v2) u v1 v2 := by
  obtain ⟨lev, held, place, cells⟩ := u
  obtain ⟨rw, cl, has, now, pl, ta, si⟩ := v
  have I : re_R lev held place has := I
  unfold wpX_take wpY_take
  dsimp only
  rcases rg_cases v1 with hb | ⟨r, hr, rfl⟩
  · exact xs_reg_bad hb (br_t rfl (ys_reg_bad hb (br_t rfl ⟨rfl, I⟩)))
  refine xs_reg hr (br_f (by decide) ?_)
  rcases rg_set v2 with hb | ⟨w, h1, hw, rfl⟩
  · exact xs_set_bad hb (br_t rfl (ys_reg hr (br_f (by decide) (ys_in_bad hb (br_t rfl ⟨rfl, I⟩)))))
  refine xs_set h1 hw (br_f (by decide) (xs_take hr hw (fun held' e1 e2 => ?_)))
  refine ys_reg hr (br_f (by decide) (ys_set h1 hw (br_f (by decide) (ys_take hr hw (fun has' f1 f2 => ?_)))))
  have J := I.2.2 r hr
  have hc : re_C (held' r) := re_Cof _ e2 (by rw [J.1.1]; rfl) (fun s t h1 hs ht hst z => by
    rw [Bool.and_eq_true, Bool.not_eq_true', decide_eq_false_iff_not] at z ⊢
    exact ⟨J.1.2 s t h1 ht hst z.1, fun y => z.2 (re_tr y hst)⟩)
  have hH : ys_H has' r (mk_b (held' r)) := by
    intro s s1 s2
    rw [f2 s s1 s2, e2 s s2]
    by_cases hx : w &&& s = w
    · rw [if_pos hx, decide_eq_true hx]; simp
    · rw [if_neg hx, decide_eq_false hx]; simp only [Bool.not_false, Bool.and_true]; exact J.2 s s1 s2
  exact ys_size hr hH hc.1 ⟨rfl, re_upd I e1 f1 hc hH⟩
theorem i_vc_has {k : Nat} {u : SX} {v : SY} (I : i_Rel k u v) (hk : k + 5 ≤ 2560) (v1 : Int32) (v2 : Int32) : wpX_has (fun r => wpY_has (fun r' => r' = r ∧ i_Rel (k + 5) u v) v v1 v2) u v1 v2 := by
  obtain ⟨lev, held, place, cells⟩ := u
  obtain ⟨rw, cl, has, now, pl, ta, si⟩ := v
  have I : re_R lev held place has := I
  unfold wpX_has wpY_has
  dsimp only
  rcases rg_cases v1 with hb | ⟨r, hr, rfl⟩
  · exact xs_reg_bad hb (br_t rfl (ys_reg_bad hb (br_t rfl ⟨rfl, I⟩)))
  refine xs_reg hr (br_f (by decide) ?_)
  rcases rg_set v2 with hb | ⟨w, h1, hw, rfl⟩
  · exact xs_set_bad hb (br_t rfl (ys_reg hr (br_f (by decide) (ys_in_bad hb (br_t rfl ⟨rfl, I⟩)))))
  have J := I.2.2 r hr
  refine xs_set h1 hw (br_f (by decide) ⟨vp_in_nI hr (by decide), ?_⟩)
  rw [xs_cl (by omega)]
  refine xs_isIn hw (fun hb => ?_) (fun hb => ?_)
  · refine br_f (by decide) (ys_reg hr (br_f (by decide) (ys_set h1 hw (br_f (by decide) (ys_ask hr h1 hw J.2 (fun z => ?_) (fun _ => ⟨rfl, I⟩))))))
    rw [hb] at z; exact absurd z (by decide)
  · refine br_t rfl (ys_reg hr (br_f (by decide) (ys_set h1 hw (br_f (by decide) (ys_ask hr h1 hw J.2 (fun _ => ⟨rfl, I⟩) (fun z => ?_))))))
    rw [hb] at z; exact absurd z (by decide)
theorem ys_count {post : Int32 → Prop} {rw cl : Int32} {has now pl si : Nat → Int32} {ta : Nat → Int64} {r n : Nat} {b : Nat → Bool} (hr : r < 4) (hn : n < 6) (h : ys_H has r b) (hp : post (nI (cn_c (fun t => decide (1 ≤ t) && (b t && decide (ed_pc t = n + 1))) 64))) : ∃ m, wY_count_25 post (nI r) (nI n) rw cl has now pl ta si m 0 1 := by
  have l : ∀ d s, s + d = 64 → 1 ≤ s → wY_count_25 post (nI r) (nI n) rw cl has now pl ta si (d + 1) (nI (cn_c (fun t => decide (1 ≤ t) && (b t && decide (ed_pc t = n + 1))) s)) (nI s) := by
    intro d
    induction d with
    | zero =>
      intro s hs _
      have e : s = 64 := by omega
      subst e
      exact br_t ys_ge64 hp
    | succ d ih =>
      intro s hs h1
      have hm := ih (s + 1) (by omega) (by omega)
      rw [cn_s] at hm
      have hpc := ed_pc_le s
      refine br_f (ys_lt64 (by omega)) (ys_ask hr h1 (by omega) h (fun hb => ?_) (fun hb => ?_))
      · intro y ey
        rw [show (decide (1 ≤ s) && (b s && decide (ed_pc s = n + 1))) = false by simp [hb]] at hm
        rw [ey, nI_1]
        exact hm
      · refine ys_degree (by omega) ?_
        by_cases e : ed_pc s = n + 1
        · refine br_t ((ys_dk _ (by omega) n (by omega)).mpr e) (fun y ey z ez => ?_)
          rw [show (decide (1 ≤ s) && (b s && decide (ed_pc s = n + 1))) = true by simp [hb, e, h1]] at hm
          rw [ey, ez, nI_1, nI_1]
          exact hm
        · refine br_f (fun z => e ((ys_dk _ (by omega) n (by omega)).mp z)) (fun y ey => ?_)
          rw [show (decide (1 ≤ s) && (b s && decide (ed_pc s = n + 1))) = false by simp [e]] at hm
          rw [ey, nI_1]
          exact hm
  exact ⟨64, l 63 1 rfl (by omega)⟩
theorem i_vc_count {k : Nat} {u : SX} {v : SY} (I : i_Rel k u v) (hk : k + 5 ≤ 2560) (v1 : Int32) (v2 : Int32) : wpX_count (fun r => wpY_count (fun r' => r' = r ∧ i_Rel (k + 5) u v) v v1 v2) u v1 v2 := by
  obtain ⟨lev, held, place, cells⟩ := u
  obtain ⟨rw, cl, has, now, pl, ta, si⟩ := v
  have I : re_R lev held place has := I
  unfold wpX_count wpY_count
  dsimp only
  rcases rg_cases v1 with hb | ⟨r, hr, rfl⟩
  · exact xs_reg_bad hb (br_t rfl (ys_reg_bad hb (br_t rfl ⟨rfl, I⟩)))
  refine xs_reg hr (br_f (by decide) ?_)
  rcases rg_deg v2 with hb | ⟨n, hn, rfl⟩
  · exact xs_deg_bad hb (br_t rfl (ys_reg hr (br_f (by decide) (ys_in_bad hb (br_t rfl ⟨rfl, I⟩)))))
  have J := I.2.2 r hr
  refine xs_deg hn (br_f (by decide) ⟨vp_in_nI hr (by decide), ?_⟩)
  rw [xs_cl (by omega)]
  refine xs_ofDegree (by omega) (fun m hm => xs_size ?_)
  refine ys_reg hr (br_f (by decide) (ys_dg hn (br_f (by decide) (ys_count hr hn J.2 ⟨?_, I⟩))))
  rw [cn_congr hm]
  rfl
theorem i_vc_level {k : Nat} {u : SX} {v : SY} (I : i_Rel k u v) (hk : k + 5 ≤ 2560) (v1 : Int32) : wpX_level (fun r u' => wpY_level (fun r' => r' = r ∧ i_Rel (k + 5) u' v) v v1) u v1 := by
  obtain ⟨lev, held, place, cells⟩ := u
  obtain ⟨rw, cl, has, now, pl, ta, si⟩ := v
  have I : re_R lev held place has := I
  unfold wpX_level wpY_level
  dsimp only
  by_cases h0 : v1 < 0
  · have a : ¬ v1 = 0 := fun z => by rw [z] at h0; exact absurd h0 (by decide)
    have b : ¬ v1 = 1 := fun z => by rw [z] at h0; exact absurd h0 (by decide)
    exact br_t h0 (br_f a (br_f b ⟨rfl, I⟩))
  · obtain ⟨j, hj, rfl⟩ := nI_of h0
    refine br_f h0 ?_
    by_cases h1 : j ≤ 1
    · refine br_t (nI_le (b := 1) h1 (by decide)) ?_
      rcases (show j = 0 ∨ j = 1 by omega) with e | e
      · subst e
        exact br_t rfl ⟨rfl, ⟨Or.inl rfl, I.2.1, I.2.2⟩⟩
      · subst e
        exact br_f (by decide) (br_t rfl ⟨rfl, ⟨Or.inr rfl, I.2.1, I.2.2⟩⟩)
    · refine br_f (fun z => h1 ((nI_leI (b := 1) hj (by decide)).mp z)) (br_f (fun z => ?_) (br_f (fun z => ?_) ⟨rfl, I⟩))
      · have := (nI_eq (b := 0) hj (by decide)).mp z; omega
      · have := (nI_eq (b := 1) hj (by decide)).mp z; omega
