/-! balance -/
def ba_x (x : Int64) : Nat → Int32
  | 0 => 0
  | d + 1 => if d % 2 = 0 then ba_x x d + nI (cn_c (xs_dg x (d + 1)) 64) else ba_x x d + (- nI (cn_c (xs_dg x (d + 1)) 64))
theorem ba_e2 : ∀ d, d < 6 → (nI d - nI d / 2 * 2 = 0 ↔ d % 2 = 0) := by decide +kernel
theorem ba_o2 : ∀ a, a < 7 → ((nI a - 1) - (nI a - 1) / 2 * 2 = 0 ↔ a % 2 = 1) := by decide +kernel
theorem xs_balance {post : Int32 → Prop} {lev : Int32} {held : Nat → Int64} {place cells : Nat → Int32} {r : Nat} (hr : r < 4) (hp : post (ba_x (held r) 6)) : ∃ n, wX_balance_13 post (nI r) lev held place cells n 0 0 := by
  have l : ∀ m d, d + m = 6 → wX_balance_13 post (nI r) lev held place cells (m + 1) (ba_x (held r) d) (nI d) := by
    intro m
    induction m with
    | zero =>
      intro d hd
      have e : d = 6 := by omega
      subst e
      exact br_t (nI_lt (a := 5) (b := 6) (by omega) (by decide)) hp
    | succ m ih =>
      intro d hd
      have hn := ih (d + 1) (by omega)
      refine br_f (fun z => absurd ((nI_ltI (a := 5) (by decide) (by omega)).mp z) (by omega)) ⟨vp_in_nI hr (by decide), ?_⟩
      rw [xs_cl (by omega)]
      refine xs_ofDegree (by omega) (fun w hw => xs_size ⟨by decide, ?_⟩)
      rw [cn_congr hw]
      by_cases e : d % 2 = 0
      · refine br_t ((ba_e2 d (by omega)).mpr e) (fun y ey z ez => ?_)
        rw [show ba_x (held r) (d + 1) = ba_x (held r) d + nI (cn_c (xs_dg (held r) (d + 1)) 64) from if_pos e] at hn
        rw [ey, ez, nI_1]
        exact hn
      · refine br_f (fun z => e ((ba_e2 d (by omega)).mp z)) (fun y ey z ez => ?_)
        rw [show ba_x (held r) (d + 1) = ba_x (held r) d + (- nI (cn_c (xs_dg (held r) (d + 1)) 64)) from if_neg e] at hn
        rw [ey, ez, nI_1]
        exact hn
  exact ⟨7, l 6 0 rfl⟩
def ba_y (x : Int64) : Nat → Int32
  | 0 => 0
  | s + 1 => if mk_b x s = true ∧ 1 ≤ s then (if ed_pc s % 2 = 1 then ba_y x s + 1 else ba_y x s + (-1)) else ba_y x s
theorem ys_balance {post : Int32 → Prop} {rw cl : Int32} {has now pl si : Nat → Int32} {ta : Nat → Int64} {r : Nat} {x : Int64} (hr : r < 4) (h : ys_H has r (mk_b x)) (hp : post (ba_y x 64)) : ∃ n, wY_balance_14 post (nI r) rw cl has now pl ta si n 0 1 := by
  have l : ∀ m s, s + m = 64 → 1 ≤ s → wY_balance_14 post (nI r) rw cl has now pl ta si (m + 1) (ba_y x s) (nI s) := by
    intro m
    induction m with
    | zero =>
      intro s hs _
      have e : s = 64 := by omega
      subst e
      exact br_t ys_ge64 hp
    | succ m ih =>
      intro s hs h1
      have hn := ih (s + 1) (by omega) (by omega)
      have hpc := ed_pc_le s
      refine br_f (ys_lt64 (by omega)) (ys_ask hr h1 (by omega) h (fun hb => ?_) (fun hb => ?_))
      · intro y ey
        rw [show ba_y x (s + 1) = ba_y x s from if_neg (fun z => by rw [hb] at z; exact absurd z.1 (by decide))] at hn
        rw [ey, nI_1]
        exact hn
      · refine ys_degree (by omega) ⟨by decide, ?_⟩
        have e1 : ba_y x (s + 1) = (if ed_pc s % 2 = 1 then ba_y x s + 1 else ba_y x s + (-1)) := if_pos ⟨hb, h1⟩
        by_cases e : ed_pc s % 2 = 1
        · refine br_t ((ba_o2 _ (by omega)).mpr e) (fun y ey z ez => ?_)
          rw [e1, if_pos e] at hn
          rw [ey, ez, nI_1]
          exact hn
        · refine br_f (fun z => e ((ba_o2 _ (by omega)).mp z)) (fun y ey z ez => ?_)
          rw [e1, if_neg e] at hn
          rw [ey, ez, nI_1]
          exact hn
  have := l 63 1 rfl (by omega)
  rw [show ba_y x 1 = 0 from if_neg (fun z => absurd z.2 (by decide))] at this
  exact ⟨64, this⟩
theorem ba_eq (x : Int64) : ∀ n, n ≤ 64 → ba_y x n = ((((((0 + nI (cn_c (xs_dg x 1) n)) + (- nI (cn_c (xs_dg x 2) n))) + nI (cn_c (xs_dg x 3) n)) + (- nI (cn_c (xs_dg x 4) n))) + nI (cn_c (xs_dg x 5) n)) + (- nI (cn_c (xs_dg x 6) n))) := by
  intro n
  induction n with
  | zero => intro _; show (0 : Int32) = 0 + nI 0 + -nI 0 + nI 0 + -nI 0 + nI 0 + -nI 0; decide
  | succ n ih =>
    intro hn
    have e := ih (by omega)
    simp only [cn_s]
    by_cases c : mk_b x n = true ∧ 1 ≤ n
    · have hp1 := xs_pc1 n (by omega) c.2
      have hp6 := ed_pc_le n
      have d : ∀ k, xs_dg x k n = decide (ed_pc n = k) := fun k => by unfold xs_dg; simp [c.1, c.2]
      rw [show ba_y x (n + 1) = (if ed_pc n % 2 = 1 then ba_y x n + 1 else ba_y x n + (-1)) from if_pos c, e]
      simp only [d]
      rcases (show ed_pc n = 1 ∨ ed_pc n = 2 ∨ ed_pc n = 3 ∨ ed_pc n = 4 ∨ ed_pc n = 5 ∨ ed_pc n = 6 by omega) with q | q | q | q | q | q <;> rw [q] <;> simp only [show (1 : Nat) % 2 = 1 from rfl, show (2 : Nat) % 2 = 0 from rfl, show (3 : Nat) % 2 = 1 from rfl, show (4 : Nat) % 2 = 0 from rfl, show (5 : Nat) % 2 = 1 from rfl, show (6 : Nat) % 2 = 0 from rfl, if_true] <;> simp <;> simp only [← nI_1] <;> grind
    · have d : ∀ k, xs_dg x k n = false := by
        intro k
        unfold xs_dg
        by_cases h1 : 1 ≤ n
        · have : mk_b x n = false := by
            cases hb : mk_b x n
            · rfl
            · exact absurd ⟨hb, h1⟩ c
          simp [this]
        · simp [h1]
      rw [show ba_y x (n + 1) = ba_y x n from if_neg c, e]
      simp [d]
theorem ba_xy (x : Int64) : ba_y x 64 = ba_x x 6 := by
  rw [ba_eq x 64 (Nat.le_refl 64)]
  rfl
theorem i_vc_balance {k : Nat} {u : SX} {v : SY} (I : i_Rel k u v) (hk : k + 5 ≤ 2560) (v1 : Int32) : wpX_balance (fun r => wpY_balance (fun r' => r' = r ∧ i_Rel (k + 5) u v) v v1) u v1 := by
  obtain ⟨lev, held, place, cells⟩ := u
  obtain ⟨rw, cl, has, now, pl, ta, si⟩ := v
  have I : re_R lev held place has := I
  unfold wpX_balance wpY_balance
  dsimp only
  rcases rg_cases v1 with hb | ⟨r, hr, rfl⟩
  · exact xs_reg_bad hb (br_t rfl (ys_reg_bad hb (br_t rfl ⟨rfl, I⟩)))
  have J := I.2.2 r hr
  exact xs_reg hr (br_f (by decide) (xs_balance hr (ys_reg hr (br_f (by decide) (ys_balance hr J.2 ⟨ba_xy _, I⟩)))))
/-! facets -/
theorem fa_0 (x : Int64) {p : Nat} (hw : p < 64) : cn_c (xs_wh x p) p = 0 := by
  have e : ∀ n, cn_c (fun _ => false) n = 0 := by
    intro n
    induction n with
    | zero => rfl
    | succ n ih => rw [cn_s, ih]; rfl
  have : cn_c (xs_wh x p) p ≤ cn_c (fun _ => false) p := cn_imp (fun i hi h => by
    unfold xs_wh at h
    rw [Bool.and_eq_true, decide_eq_true_iff] at h
    have := xs_le p hw i (by omega) h.2
    omega)
  rw [e] at this
  omega
theorem fa_iff {x : Int64} {t : Nat} (ht : t < 64) (hb : mk_b x t = true) : cn_c (xs_wh x t) 64 = 1 ↔ ∀ s, t < s → s < 64 → xs_wh x t s = false := by
  have h0 := fa_0 x ht
  have hs : xs_wh x t t = true := by unfold xs_wh; simp [hb]
  constructor
  · intro h s h1 h2
    cases hx : xs_wh x t s
    · rfl
    · have a := cn_lt h1 hs
      have b := cn_lt h2 hx
      omega
  · intro h
    have l : ∀ d, t + 1 + d ≤ 64 → cn_c (xs_wh x t) (t + 1 + d) = 1 := by
      intro d
      induction d with
      | zero => intro _; rw [Nat.add_zero, cn_s, h0, hs]; rfl
      | succ d ih =>
        intro hd
        rw [show t + 1 + (d + 1) = (t + 1 + d) + 1 by omega, cn_s, ih (by omega), h _ (by omega) (by omega)]
        rfl
    have := l (63 - t) (by omega)
    rw [show t + 1 + (63 - t) = 64 by omega] at this
    exact this
theorem ys_isFacet {post : Int32 → Prop} {rw cl : Int32} {has now pl si : Nat → Int32} {ta : Nat → Int64} {r t : Nat} {x : Int64} (hr : r < 4) (h1 : 1 ≤ t) (ht : t < 64) (h : ys_H has r (mk_b x)) (hT : xs_fa x t = true → post 1) (hF : xs_fa x t = false → post 0) : wpY_isFacet post (rw, cl, has, now, pl, ta, si) (nI r) (nI t) := by
  refine ys_ask hr h1 ht h (fun hb => hF (by unfold xs_fa; simp [hb])) (fun hb => ?_)
  have hfa : (∀ s, t < s → s < 64 → xs_wh x t s = false) → post 1 := fun z => hT (by unfold xs_fa; rw [(fa_iff ht hb).mpr z, hb]; simp [h1])
  have hno : ∀ s, t < s → s < 64 → xs_wh x t s = true → post 0 := fun s s1 s2 z => hF (by
    unfold xs_fa
    have : ¬ cn_c (xs_wh x t) 64 = 1 := fun q => by
      rw [(fa_iff ht hb).mp q s s1 s2] at z
      exact absurd z (by decide)
    simp [this])
  have l : ∀ m s, s + m = 64 → t < s → (∀ q, t < q → q < s → xs_wh x t q = false) → wY_isFacet_20 post (nI r) (nI t) rw cl has now pl ta si (m + 1) (nI s) := by
    intro m
    induction m with
    | zero =>
      intro s hs _ hq
      have e : s = 64 := by omega
      subst e
      exact br_t ys_ge64 (hfa hq)
    | succ m ih =>
      intro s hs hts hq
      refine br_f (ys_lt64 (by omega)) ?_
      have next : xs_wh x t s = false → wY_isFacet_20 post (nI r) (nI t) rw cl has now pl ta si (m + 1) (nI (s + 1)) := fun z => ih (s + 1) (by omega) (by omega) (fun q q1 q2 => by
        by_cases e : q = s
        · rw [e]; exact z
        · exact hq q q1 (by omega))
      by_cases e : t &&& s = t
      · refine br_t ((ys_sub t ht s (by omega)).mpr e) (ys_ask hr (by omega) (by omega) h (fun hs0 => ?_) (fun hs1 => hno s hts (by omega) (by unfold xs_wh; simp [hs1, e])))
        intro y ey
        rw [ey, nI_1]
        exact next (by unfold xs_wh; simp [hs0])
      · refine br_f (fun z => e ((ys_sub t ht s (by omega)).mp z)) (fun y ey => ?_)
        rw [ey, nI_1]
        exact next (by unfold xs_wh; simp [e])
  intro y ey
  rw [ey, nI_1]
  exact ⟨63 - t + 1, l (63 - t) (t + 1) (by omega) (by omega) (fun q q1 q2 => by omega)⟩
theorem ys_facets {post : Int32 → Prop} {rw cl : Int32} {has now pl si : Nat → Int32} {ta : Nat → Int64} {r : Nat} {x : Int64} (hr : r < 4) (h : ys_H has r (mk_b x)) (hp : post (nI (cn_c (xs_fa x) 64))) : ∃ n, wY_facets_14 post (nI r) rw cl has now pl ta si n 0 1 := by
  have l : ∀ m s, s + m = 64 → 1 ≤ s → wY_facets_14 post (nI r) rw cl has now pl ta si (m + 1) (nI (cn_c (xs_fa x) s)) (nI s) := by
    intro m
    induction m with
    | zero =>
      intro s hs _
      have e : s = 64 := by omega
      subst e
      exact br_t ys_ge64 hp
    | succ m ih =>
      intro s hs h1
      have hn := ih (s + 1) (by omega) (by omega)
      rw [cn_s] at hn
      refine br_f (ys_lt64 (by omega)) (ys_isFacet hr h1 (by omega) h (fun hb => ?_) (fun hb => ?_))
      · refine br_f (by decide) (fun y ey z ez => ?_)
        rw [hb] at hn
        rw [ey, ez, nI_1, nI_1]
        exact hn
      · refine br_t rfl (fun y ey => ?_)
        rw [hb] at hn
        rw [ey, nI_1]
        exact hn
  have := l 63 1 rfl (by omega)
  rw [cn_s, show xs_fa x 0 = false by unfold xs_fa; simp] at this
  exact ⟨64, this⟩
theorem i_vc_facets {k : Nat} {u : SX} {v : SY} (I : i_Rel k u v) (hk : k + 5 ≤ 2560) (v1 : Int32) : wpX_facets (fun r => wpY_facets (fun r' => r' = r ∧ i_Rel (k + 5) u v) v v1) u v1 := by
  obtain ⟨lev, held, place, cells⟩ := u
  obtain ⟨rw, cl, has, now, pl, ta, si⟩ := v
  have I : re_R lev held place has := I
  unfold wpX_facets wpY_facets
  dsimp only
  rcases rg_cases v1 with hb | ⟨r, hr, rfl⟩
  · exact xs_reg_bad hb (br_t rfl (ys_reg_bad hb (br_t rfl ⟨rfl, I⟩)))
  have J := I.2.2 r hr
  refine xs_reg hr (br_f (by decide) ⟨vp_in_nI hr (by decide), ?_⟩)
  rw [xs_cl (by omega)]
  refine xs_facetsOf (fun m hm => xs_size ?_)
  rw [cn_congr hm]
  exact ys_reg hr (br_f (by decide) (ys_facets hr J.2 ⟨rfl, I⟩))
theorem fa_both {lev : Int32} {held : Nat → Int64} {place cells : Nat → Int32} {rw cl : Int32} {has now pl si : Nat → Int32} {ta : Nat → Int64} {r : Nat} {x w : Int64} (kk : Int32) (hr : r < 4) (h : ys_H has r (mk_b x)) (hw : ∀ t, t < 64 → mk_b w t = xs_fa x t) : ∀ m s c, s + m = 64 → 1 ≤ s → ∃ ans : Int32, (∀ post : Int32 → Prop, post ans → wX_facet_25 post kk w lev held place cells (m + 1) (nI c) (nI s)) ∧ (∀ post : Int32 → Prop, post ans → wY_facet_15 post (nI r) kk rw cl has now pl ta si (m + 1) (nI c) (nI s)) := by
  intro m
  induction m with
  | zero =>
    intro s c hs _
    have e : s = 64 := by omega
    subst e
    exact ⟨-2, fun post hp => br_t xs_gt64 hp, fun post hp => br_t ys_ge64 hp⟩
  | succ m ih =>
    intro s c hs h1
    have hs64 : s < 64 := by omega
    have e := hw s hs64
    have no : ∀ {A : Prop}, xs_fa x s = true → xs_fa x s = false → A := fun a b => by rw [a] at b; exact absurd b (by decide)
    cases hf : xs_fa x s
    · obtain ⟨ans, hX, hY⟩ := ih (s + 1) c (by omega) (by omega)
      refine ⟨ans, fun post hp => br_f (xs_gt hs64) (xs_isIn hs64 (fun hb => ?_) (fun hb => ?_)), fun post hp => br_f (ys_lt64 hs64) (ys_isFacet hr h1 hs64 h (fun hb => no hb hf) (fun hb => ?_))⟩
      · rw [e] at hb; exact no hb hf
      · refine br_t rfl (fun y ey => ?_)
        rw [ey, nI_1]; exact hX post hp
      · refine br_t rfl (fun y ey => ?_)
        rw [ey, nI_1]; exact hY post hp
    · by_cases hc : nI c = kk
      · refine ⟨nI s, fun post hp => br_f (xs_gt hs64) (xs_isIn hs64 (fun hb => ?_) (fun hb => ?_)), fun post hp => br_f (ys_lt64 hs64) (ys_isFacet hr h1 hs64 h (fun hb => ?_) (fun hb => no hf hb))⟩
        · exact br_f (by decide) (br_t hc hp)
        · rw [e] at hb; exact no hf hb
        · exact br_f (by decide) (br_t hc hp)
      · obtain ⟨ans, hX, hY⟩ := ih (s + 1) (c + 1) (by omega) (by omega)
        refine ⟨ans, fun post hp => br_f (xs_gt hs64) (xs_isIn hs64 (fun hb => ?_) (fun hb => ?_)), fun post hp => br_f (ys_lt64 hs64) (ys_isFacet hr h1 hs64 h (fun hb => ?_) (fun hb => no hf hb))⟩
        · refine br_f (by decide) (br_f hc (fun y ey z ez => ?_))
          rw [ey, ez, nI_1, nI_1]; exact hX post hp
        · rw [e] at hb; exact no hf hb
        · refine br_f (by decide) (br_f hc (fun y ey z ez => ?_))
          rw [ey, ez, nI_1, nI_1]; exact hY post hp
theorem i_vc_facet {k : Nat} {u : SX} {v : SY} (I : i_Rel k u v) (hk : k + 5 ≤ 2560) (v1 : Int32) (v2 : Int32) : wpX_facet (fun r => wpY_facet (fun r' => r' = r ∧ i_Rel (k + 5) u v) v v1 v2) u v1 v2 := by
  obtain ⟨lev, held, place, cells⟩ := u
  obtain ⟨rw, cl, has, now, pl, ta, si⟩ := v
  have I : re_R lev held place has := I
  unfold wpX_facet wpY_facet
  dsimp only
  rcases rg_cases v1 with hb | ⟨r, hr, rfl⟩
  · exact xs_reg_bad hb (br_t rfl (ys_reg_bad hb (br_t rfl ⟨rfl, I⟩)))
  have J := I.2.2 r hr
  refine xs_reg hr (br_f (by decide) ⟨vp_in_nI hr (by decide), ?_⟩)
  rw [xs_cl (by omega)]
  refine xs_facetsOf (fun m hm => ?_)
  obtain ⟨ans, hX, hY⟩ := fa_both (lev := lev) (held := held) (place := place) (cells := cells) (rw := rw) (cl := cl) (now := now) (pl := pl) (ta := ta) (si := si) v2 hr J.2 hm 63 1 0 rfl (by omega)
  exact ⟨64, hX _ (ys_reg hr (br_f (by decide) ⟨64, hY _ ⟨rfl, I⟩⟩))⟩
