/-! apply, link, skeleton -/
theorem op_cases (p : Int32) : (p < 0 ∨ 2 < p) ∨ (p = 0 ∨ p = 1 ∨ p = 2) := by
  by_cases h0 : p < 0
  · exact Or.inl (Or.inl h0)
  · obtain ⟨j, hj, rfl⟩ := nI_of h0
    by_cases h4 : j < 3
    · right
      rcases (show j = 0 ∨ j = 1 ∨ j = 2 by omega) with e | e | e
      · subst e; exact Or.inl rfl
      · subst e; exact Or.inr (Or.inl rfl)
      · subst e; exact Or.inr (Or.inr rfl)
    · exact Or.inl (Or.inr (nI_lt (a := 2) (by omega) hj))
/-- a loop of the reference that fills now and keeps it in register d -/
theorem ys_fin {post : Int32 → SY → Prop} {rw cl : Int32} {has now pl si : Nat → Int32} {ta : Nat → Int64} {d : Nat} {b : Nat → Bool} (hd : d < 4) (hn : ∀ s, 1 ≤ s → s < 64 → now s = if b s = true then 1 else 0) (hp : ∀ has' now', (∀ i, (∀ s, s < 64 → i ≠ 64 * d + s) → has' i = has i) → ys_H has' d b → post 1 (rw, cl, has', now', pl, ta, si)) : wpY_keep (fun u => match u with | (a, b, c, d, e, f, g) => post 1 (a, b, c, d, e, f, g)) (rw, cl, has, now, pl, ta, si) (nI d) :=
  ys_keep hd hn (fun has' f1 f2 => hp has' now f1 f2)
theorem ys_put {now : Nat → Int32} {b : Nat → Bool} {s : Nat} {x : Int32} (h : ∀ t, 1 ≤ t → t < s → now t = if b t = true then 1 else 0) (hx : x = if b s = true then 1 else 0) : ∀ t, 1 ≤ t → t < s + 1 → upd now s x t = if b t = true then 1 else 0 := by
  intro t t1 t2
  by_cases e : t = s
  · subst e; rw [xs_us, hx]
  · rw [xs_un e]; exact h t t1 (by omega)
theorem ys_x0 {b : Nat → Bool} {s : Nat} (h : b s = false) : vp_nar .boolean 0 = if b s = true then 1 else 0 := by rw [nb_v0, h]; rfl
theorem ys_x1 {b : Nat → Bool} {s : Nat} (h : b s = true) : vp_nar .boolean 1 = if b s = true then 1 else 0 := by rw [nb_v1, h]; rfl
theorem ys_link {post : Int32 → SY → Prop} {rw cl : Int32} {has now pl si : Nat → Int32} {ta : Nat → Int64} {d a w : Nat} {x : Int64} (hd : d < 4) (ha : a < 4) (hw : w < 64) (h : ys_H has a (mk_b x)) (hp : ∀ has' now', (∀ i, (∀ s, s < 64 → i ≠ 64 * d + s) → has' i = has i) → ys_H has' d (xs_li x w) → post 1 (rw, cl, has', now', pl, ta, si)) : ∃ n, wY_link_32 post (nI d) (nI a) (nI w) rw cl n 1 has now pl ta si := by
  have l : ∀ m s now', s + m = 64 → 1 ≤ s → (∀ t, 1 ≤ t → t < s → now' t = if xs_li x w t = true then 1 else 0) → wY_link_32 post (nI d) (nI a) (nI w) rw cl (m + 1) (nI s) has now' pl ta si := by
    intro m
    induction m with
    | zero =>
      intro s now' hs _ hn
      have e : s = 64 := by omega
      subst e
      exact br_t ys_ge64 (ys_fin hd hn hp)
    | succ m ih =>
      intro s now' hs h1 hn
      have hs64 : s < 64 := by omega
      have hi : vp_in (nI s) 64 := vp_in_nI hs64 (by decide)
      have hl := st_and_le s w
      have ho : s ||| w < 64 := st_or_lt hs64 hw
      have ho1 : 1 ≤ s ||| w := by
        have := @Nat.left_le_or s w
        omega
      refine br_f (ys_lt64 hs64) ?_
      rw [st_and, st_or]
      by_cases e : s &&& w = 0
      · refine br_t (by rw [e]; rfl) (ys_ask ha ho1 ho h (fun hb => ⟨hi, fun y ey z ez => ?_⟩) (fun hb => ⟨hi, fun y ey z ez => ?_⟩))
        · rw [ey, ez, nI_1, xs_cl (by omega)]
          exact ih (s + 1) _ (by omega) (by omega) (ys_put hn (ys_x0 (by unfold xs_li; simp [hb])))
        · rw [ey, ez, nI_1, xs_cl (by omega)]
          exact ih (s + 1) _ (by omega) (by omega) (ys_put hn (ys_x1 (by unfold xs_li; simp [hb, h1, e])))
      · refine br_f (fun z => e ((nI_eq (b := 0) (by omega) (by decide)).mp z)) ⟨hi, fun y ey z ez => ?_⟩
        rw [ey, ez, nI_1, xs_cl (by omega)]
        exact ih (s + 1) _ (by omega) (by omega) (ys_put hn (ys_x0 (by unfold xs_li; simp [e])))
  exact ⟨64, l 63 1 now rfl (by omega) (fun t t1 t2 => by omega)⟩
def xs_sk (x : Int64) (k t : Nat) : Bool := decide (1 ≤ t) && (mk_b x t && decide (ed_pc t ≤ k))
theorem ys_kd : ∀ a, a < 7 → ∀ k, k < 8 → (nI k < nI a - 1 ↔ k + 1 < a) := by decide +kernel
theorem ys_skel {post : Int32 → SY → Prop} {rw cl : Int32} {has now pl si : Nat → Int32} {ta : Nat → Int64} {d a k : Nat} {x : Int64} (hd : d < 4) (ha : a < 4) (hk : k < 6) (h : ys_H has a (mk_b x)) (hp : ∀ has' now', (∀ i, (∀ s, s < 64 → i ≠ 64 * d + s) → has' i = has i) → ys_H has' d (xs_sk x (k + 1)) → post 1 (rw, cl, has', now', pl, ta, si)) : ∃ n, wY_skeleton_31 post (nI d) (nI a) (nI k) rw cl n 1 has now pl ta si := by
  have l : ∀ m s now', s + m = 64 → 1 ≤ s → (∀ t, 1 ≤ t → t < s → now' t = if xs_sk x (k + 1) t = true then 1 else 0) → wY_skeleton_31 post (nI d) (nI a) (nI k) rw cl (m + 1) (nI s) has now' pl ta si := by
    intro m
    induction m with
    | zero =>
      intro s now' hs _ hn
      have e : s = 64 := by omega
      subst e
      exact br_t ys_ge64 (ys_fin hd hn hp)
    | succ m ih =>
      intro s now' hs h1 hn
      have hs64 : s < 64 := by omega
      have hi : vp_in (nI s) 64 := vp_in_nI hs64 (by decide)
      have hpc := ed_pc_le s
      refine br_f (ys_lt64 hs64) (ys_ask ha h1 hs64 h (fun hb => ⟨hi, fun y ey z ez => ?_⟩) (fun hb => ys_degree hs64 ?_))
      · rw [ey, ez, nI_1, xs_cl (by omega)]
        exact ih (s + 1) _ (by omega) (by omega) (ys_put hn (ys_x0 (by unfold xs_sk; simp [hb])))
      · by_cases e : k + 1 < ed_pc s
        · refine br_t ((ys_kd _ (by omega) k (by omega)).mpr e) ⟨hi, fun y ey z ez => ?_⟩
          rw [ey, ez, nI_1, xs_cl (by omega)]
          exact ih (s + 1) _ (by omega) (by omega) (ys_put hn (ys_x0 (by unfold xs_sk; simp; intros; omega)))
        · refine br_f (fun z => e ((ys_kd _ (by omega) k (by omega)).mp z)) ⟨hi, fun y ey z ez => ?_⟩
          rw [ey, ez, nI_1, xs_cl (by omega)]
          exact ih (s + 1) _ (by omega) (by omega) (ys_put hn (ys_x1 (by unfold xs_sk; simp [hb, h1]; omega)))
  exact ⟨64, l 63 1 now rfl (by omega) (fun t t1 t2 => by omega)⟩
theorem xs_pc1 : ∀ t, t < 64 → 1 ≤ t → 1 ≤ ed_pc t := by decide +kernel
theorem xs_skel {post : Int32 → SX → Prop} {lev : Int32} {held : Nat → Int64} {place cells : Nat → Int32} {d a k : Nat} (hd : d < 4) (ha : a < 4) (hk : k < 6) (hp : ∀ r, (∀ t, t < 64 → mk_b r t = xs_sk (held a) (k + 1) t) → post 1 (lev, vp_updL held d r, place, cells)) : ∃ n, wX_skeleton_29 post (nI d) (nI a) (nI k) lev held place cells n 0 0 := by
  have l : ∀ m s acc, s + m = k + 1 → (∀ t, t < 64 → mk_b acc t = xs_sk (held a) s t) → wX_skeleton_29 post (nI d) (nI a) (nI k) lev held place cells (m + 1) acc (nI s) := by
    intro m
    induction m with
    | zero =>
      intro s acc hs h
      have e : s = k + 1 := by omega
      subst e
      refine br_t (nI_lt (by omega) (by omega)) ⟨vp_in_nI hd (by decide), fun y ey => ?_⟩
      rw [ey, xs_cl (by omega)]
      exact hp acc h
    | succ m ih =>
      intro s acc hs h
      refine br_f (nI_nlt (by omega) (by omega)) ⟨vp_in_nI ha (by decide), ?_⟩
      rw [xs_cl (by omega)]
      refine xs_ofDegree (by omega) (fun r hr y ey z ez => ?_)
      rw [ey, ez, nI_1]
      refine ih (s + 1) _ (by omega) (fun t ht => ?_)
      rw [mk_or, h t ht, hr t ht]
      unfold xs_sk xs_dg
      by_cases e1 : ed_pc t = s + 1
      · rw [decide_eq_true e1, decide_eq_true (show ed_pc t ≤ s + 1 by omega), decide_eq_false (show ¬ ed_pc t ≤ s by omega)]
        simp
      · rw [decide_eq_false e1]
        by_cases e2 : ed_pc t ≤ s
        · rw [decide_eq_true e2, decide_eq_true (show ed_pc t ≤ s + 1 by omega)]; simp
        · rw [decide_eq_false e2, decide_eq_false (show ¬ ed_pc t ≤ s + 1 by omega)]; simp
  refine ⟨k + 1 + 1, l (k + 1) 0 0 (by omega) (fun t ht => ?_)⟩
  rw [mk_0]
  unfold xs_sk
  by_cases h : 1 ≤ t
  · have := xs_pc1 t ht h
    rw [decide_eq_false (show ¬ ed_pc t ≤ 0 by omega)]; simp
  · rw [decide_eq_false h]; rfl
/-- both sides take a new register -/
theorem re_put {lev : Int32} {held : Nat → Int64} {place has has' : Nat → Int32} {d : Nat} {m : Int64} (I : re_R lev held place has) (f1 : ∀ i, (∀ s, s < 64 → i ≠ 64 * d + s) → has' i = has i) (hc : re_C m) (hh : ys_H has' d (mk_b m)) : re_R lev (vp_updL held d m) place has' :=
  re_upd I (fun q hq => xs_uLn hq) f1 (by rw [xs_uLs]; exact hc) (by rw [xs_uLs]; exact hh)
theorem re_Hof {has : Nat → Int32} {d : Nat} {m : Int64} {b : Nat → Bool} (hm : ∀ t, t < 64 → mk_b m t = b t) (h : ys_H has d b) : ys_H has d (mk_b m) := by
  intro s s1 s2
  rw [hm s s2]
  exact h s s1 s2
theorem re_li {x m : Int64} {w : Nat} (hx : re_C x) (hw : w < 64) (hm : ∀ t, t < 64 → mk_b m t = xs_li x w t) : re_C m := by
  refine re_Cof _ hm (by unfold xs_li; simp) (fun s t h1 hs ht hst z => ?_)
  unfold xs_li at z ⊢
  simp only [Bool.and_eq_true, decide_eq_true_iff] at z ⊢
  obtain ⟨z1, z2, z3⟩ := z
  refine ⟨h1, ?_, hx.2 (s ||| w) (t ||| w) ?_ (st_or_lt ht hw) ?_ z3⟩
  · rw [← hst, Nat.and_assoc, z2, Nat.and_zero]
  · have := @Nat.left_le_or s w
    omega
  · apply Nat.eq_of_testBit_eq
    intro i
    have e := congrArg (fun x => x.testBit i) hst
    simp only [Nat.testBit_and, Nat.testBit_or] at e ⊢
    revert e
    cases s.testBit i <;> cases t.testBit i <;> cases w.testBit i <;> simp
theorem re_pc : ∀ s, s < 64 → ∀ t, t < 64 → s &&& t = s → ed_pc s ≤ ed_pc t := by decide +kernel
theorem re_sk {x m : Int64} {k : Nat} (hx : re_C x) (hm : ∀ t, t < 64 → mk_b m t = xs_sk x k t) : re_C m := by
  refine re_Cof _ hm (by unfold xs_sk; simp) (fun s t h1 hs ht hst z => ?_)
  unfold xs_sk at z ⊢
  simp only [Bool.and_eq_true, decide_eq_true_iff] at z ⊢
  have := re_pc s hs t ht hst
  exact ⟨h1, hx.2 s t h1 ht hst z.2.1, by omega⟩
theorem re_63 : ∀ s, s < 64 → ∀ t, t < 63 → s &&& t = s → s < 63 ∧ 1 ≤ 63 ^^^ t ∧ (63 ^^^ t) &&& (63 ^^^ s) = 63 ^^^ t := by decide +kernel
theorem re_du {x m : Int64} (hx : re_C x) (hm : ∀ t, t < 64 → mk_b m t = xs_du x t) : re_C m := by
  refine re_Cof _ hm (by unfold xs_du; simp) (fun s t h1 hs ht hst z => ?_)
  unfold xs_du at z ⊢
  simp only [Bool.and_eq_true, decide_eq_true_iff, Bool.not_eq_true'] at z ⊢
  obtain ⟨z1, z2, z3⟩ := z
  obtain ⟨a, b, c⟩ := re_63 s hs t z2 hst
  refine ⟨h1, a, ?_⟩
  cases hb : mk_b x (63 ^^^ s)
  · rfl
  · rw [hx.2 _ _ b (xs_63 s hs) c hb] at z3
    exact z3
theorem i_vc_link {k : Nat} {u : SX} {v : SY} (I : i_Rel k u v) (hk : k + 5 ≤ 2560) (v1 : Int32) (v2 : Int32) (v3 : Int32) : wpX_link (fun r u' => wpY_link (fun r' v' => r' = r ∧ i_Rel (k + 5) u' v') v v1 v2 v3) u v1 v2 v3 := by
  obtain ⟨lev, held, place, cells⟩ := u
  obtain ⟨rw, cl, has, now, pl, ta, si⟩ := v
  have I : re_R lev held place has := I
  unfold wpX_link wpY_link
  dsimp only
  rcases rg_cases v1 with hb | ⟨d, hd, rfl⟩
  · exact xs_reg_bad hb (br_t rfl (ys_reg_bad hb (br_t rfl ⟨rfl, I⟩)))
  refine xs_reg hd (br_f (by decide) ?_)
  rcases rg_cases v2 with hb | ⟨a, ha, rfl⟩
  · exact xs_reg_bad hb (br_t rfl (ys_reg hd (br_f (by decide) (ys_reg_bad hb (br_t rfl ⟨rfl, I⟩)))))
  refine xs_reg ha (br_f (by decide) ?_)
  rcases rg_set v3 with hb | ⟨w, h1, hw, rfl⟩
  · exact xs_set_bad hb (br_t rfl (ys_reg hd (br_f (by decide) (ys_reg ha (br_f (by decide) (ys_in_bad hb (br_t rfl ⟨rfl, I⟩)))))))
  have J := I.2.2 a ha
  refine xs_set h1 hw (br_f (by decide) ⟨vp_in_nI ha (by decide), ?_⟩)
  rw [xs_cl (by omega), xs_cl (by omega)]
  refine xs_linkOf hw (fun m hm => ⟨vp_in_nI hd (by decide), fun y ey => ?_⟩)
  rw [ey]
  exact ys_reg hd (br_f (by decide) (ys_reg ha (br_f (by decide) (ys_set h1 hw (br_f (by decide) (ys_link hd ha hw J.2 (fun has' now' f1 f2 => ⟨rfl, re_put I f1 (re_li J.1 hw hm) (re_Hof hm f2)⟩)))))))
theorem i_vc_skeleton {k : Nat} {u : SX} {v : SY} (I : i_Rel k u v) (hk : k + 5 ≤ 2560) (v1 : Int32) (v2 : Int32) (v3 : Int32) : wpX_skeleton (fun r u' => wpY_skeleton (fun r' v' => r' = r ∧ i_Rel (k + 5) u' v') v v1 v2 v3) u v1 v2 v3 := by
  obtain ⟨lev, held, place, cells⟩ := u
  obtain ⟨rw, cl, has, now, pl, ta, si⟩ := v
  have I : re_R lev held place has := I
  unfold wpX_skeleton wpY_skeleton
  dsimp only
  rcases rg_cases v1 with hb | ⟨d, hd, rfl⟩
  · exact xs_reg_bad hb (br_t rfl (ys_reg_bad hb (br_t rfl ⟨rfl, I⟩)))
  refine xs_reg hd (br_f (by decide) ?_)
  rcases rg_cases v2 with hb | ⟨a, ha, rfl⟩
  · exact xs_reg_bad hb (br_t rfl (ys_reg hd (br_f (by decide) (ys_reg_bad hb (br_t rfl ⟨rfl, I⟩)))))
  refine xs_reg ha (br_f (by decide) ?_)
  rcases rg_deg v3 with hb | ⟨n, hn, rfl⟩
  · exact xs_deg_bad hb (br_t rfl (ys_reg hd (br_f (by decide) (ys_reg ha (br_f (by decide) (ys_in_bad hb (br_t rfl ⟨rfl, I⟩)))))))
  have J := I.2.2 a ha
  refine xs_deg hn (br_f (by decide) (xs_skel hd ha hn (fun m hm => ?_)))
  exact ys_reg hd (br_f (by decide) (ys_reg ha (br_f (by decide) (ys_dg hn (br_f (by decide) (ys_skel hd ha hn J.2 (fun has' now' f1 f2 => ⟨rfl, re_put I f1 (re_sk J.1 hm) (re_Hof hm f2)⟩)))))))
/-! apply -/
def xs_op (o : Nat) (x y : Int64) (t : Nat) : Bool := if o = 0 then mk_b x t || mk_b y t else if o = 1 then mk_b x t && mk_b y t else xs_du x t
theorem ys_apply {post : Int32 → SY → Prop} {rw cl : Int32} {has now pl si : Nat → Int32} {ta : Nat → Int64} {o d a b : Nat} {x y : Int64} (ho : o = 0 ∨ o = 1 ∨ o = 2) (hd : d < 4) (ha : a < 4) (hb : b < 4) (h : ys_H has a (mk_b x)) (h' : ys_H has b (mk_b y)) (hp : ∀ has' now', (∀ i, (∀ s, s < 64 → i ≠ 64 * d + s) → has' i = has i) → ys_H has' d (xs_op o x y) → post 1 (rw, cl, has', now', pl, ta, si)) : ∃ n, wY_apply_40 post (nI o) (nI d) (nI a) (nI b) rw cl n 1 has now pl ta si := by
  have l : ∀ m s now', s + m = 64 → 1 ≤ s → (∀ t, 1 ≤ t → t < s → now' t = if xs_op o x y t = true then 1 else 0) → wY_apply_40 post (nI o) (nI d) (nI a) (nI b) rw cl (m + 1) (nI s) has now' pl ta si := by
    intro m
    induction m with
    | zero =>
      intro s now' hs _ hn
      have e : s = 64 := by omega
      subst e
      exact br_t ys_ge64 (ys_fin hd hn hp)
    | succ m ih =>
      intro s now' hs h1 hn
      have hs64 : s < 64 := by omega
      have hi : vp_in (nI s) 64 := vp_in_nI hs64 (by decide)
      have put0 : xs_op o x y s = false → vp_in (nI s) 64 ∧ ∀ y1, y1 = upd now' (nI s).toNatClampNeg (vp_nar .boolean 0) → ∀ z, z = nI s + 1 → wY_apply_40 post (nI o) (nI d) (nI a) (nI b) rw cl (m + 1) z has y1 pl ta si := by
        intro hf
        refine ⟨hi, fun y1 ey z ez => ?_⟩
        rw [ey, ez, nI_1, xs_cl (by omega)]
        exact ih (s + 1) _ (by omega) (by omega) (ys_put hn (ys_x0 hf))
      have put1 : xs_op o x y s = true → vp_in (nI s) 64 ∧ ∀ y1, y1 = upd now' (nI s).toNatClampNeg (vp_nar .boolean 1) → ∀ z, z = nI s + 1 → wY_apply_40 post (nI o) (nI d) (nI a) (nI b) rw cl (m + 1) z has y1 pl ta si := by
        intro hf
        refine ⟨hi, fun y1 ey z ez => ?_⟩
        rw [ey, ez, nI_1, xs_cl (by omega)]
        exact ih (s + 1) _ (by omega) (by omega) (ys_put hn (ys_x1 hf))
      have va : vp_in ((64 : Int32) * nI a + nI s) 256 := by rw [ys_ix]; exact ys_vi ha hs64
      have vb : vp_in ((64 : Int32) * nI b + nI s) 256 := by rw [ys_ix]; exact ys_vi hb hs64
      refine br_f (ys_lt64 hs64) ⟨va, fun x6 e6 => ⟨vb, fun x7 e7 => ?_⟩⟩
      rw [ys_ix, ys_cl ha hs64] at e6
      rw [ys_ix, ys_cl hb hs64] at e7
      have q6 : x6 = 0 ↔ mk_b x s = false := by rw [e6]; exact ys_H0 h h1 hs64
      have q7 : x7 = 0 ↔ mk_b y s = false := by rw [e7]; exact ys_H0 h' h1 hs64
      rcases ho with e | e | e
      · subst e
        refine br_t rfl ?_
        by_cases c6 : x6 = 0
        · refine br_t c6 ?_
          by_cases c7 : x7 = 0
          · exact br_t c7 (put0 (by unfold xs_op; rw [if_pos rfl, q6.mp c6, q7.mp c7]; rfl))
          · exact br_f c7 (put1 (by
              unfold xs_op
              rw [if_pos rfl]
              cases hh : mk_b y s
              · exact absurd (q7.mpr hh) c7
              · rw [Bool.or_true]))
        · exact br_f c6 (put1 (by
            unfold xs_op
            rw [if_pos rfl]
            cases hh : mk_b x s
            · exact absurd (q6.mpr hh) c6
            · rfl))
      · subst e
        refine br_f (by decide) (br_t rfl ?_)
        by_cases c6 : x6 = 0
        · exact br_t c6 (put0 (by unfold xs_op; rw [if_neg (by decide), if_pos rfl, q6.mp c6]; rfl))
        · refine br_f c6 ?_
          by_cases c7 : x7 = 0
          · exact br_t c7 (put0 (by unfold xs_op; rw [if_neg (by decide), if_pos rfl, q7.mp c7, Bool.and_false]))
          · exact br_f c7 (put1 (by
              unfold xs_op
              rw [if_neg (by decide), if_pos rfl]
              cases hh : mk_b y s
              · exact absurd (q7.mpr hh) c7
              · cases hg : mk_b x s
                · exact absurd (q6.mpr hg) c6
                · rfl))
      · subst e
        have eo : ∀ t, xs_op 2 x y t = xs_du x t := fun t => by unfold xs_op; rw [if_neg (by decide), if_neg (by decide)]
        refine br_f (by decide) (br_f (by decide) ?_)
        by_cases c : s = 63
        · refine br_t (by subst c; exact nI_le (a := 63) (b := 63) (by omega) (by decide)) (put0 ?_)
          rw [eo, c]; unfold xs_du; simp
        · refine br_f (nI_ge (b := 63) (by omega) (by decide)) ?_
          have e63 : (63 : Int32) - nI s = nI (63 ^^^ s) := by
            have : ∀ s, s < 64 → (63 : Int32) - nI s = nI (63 ^^^ s) := by decide +kernel
            exact this s hs64
          have g1 : 1 ≤ 63 ^^^ s := by
            have : ∀ s, s < 63 → 1 ≤ 63 ^^^ s := by decide +kernel
            exact this s (by omega)
          rw [e63]
          refine ys_ask ha g1 (xs_63 s hs64) h (fun hh => put1 ?_) (fun hh => put0 ?_)
          · rw [eo]; unfold xs_du; simp [hh, h1]; omega
          · rw [eo]; unfold xs_du; simp [hh]
  exact ⟨64, l 63 1 now rfl (by omega) (fun t t1 t2 => by omega)⟩
theorem re_op {o : Nat} {x y m : Int64} (hx : re_C x) (hy : re_C y) (hm : ∀ t, t < 64 → mk_b m t = xs_op o x y t) : re_C m := by
  by_cases e0 : o = 0
  · refine re_Cof _ hm (by unfold xs_op; rw [if_pos e0, hx.1, hy.1]; rfl) (fun s t h1 hs ht hst z => ?_)
    unfold xs_op at z ⊢
    rw [if_pos e0, Bool.or_eq_true] at z ⊢
    rcases z with z | z
    · exact Or.inl (hx.2 s t h1 ht hst z)
    · exact Or.inr (hy.2 s t h1 ht hst z)
  · by_cases e1 : o = 1
    · refine re_Cof _ hm (by unfold xs_op; rw [if_neg e0, if_pos e1, hx.1]; rfl) (fun s t h1 hs ht hst z => ?_)
      unfold xs_op at z ⊢
      rw [if_neg e0, if_pos e1, Bool.and_eq_true] at z ⊢
      exact ⟨hx.2 s t h1 ht hst z.1, hy.2 s t h1 ht hst z.2⟩
    · exact re_du hx (fun t ht => by rw [hm t ht]; unfold xs_op; rw [if_neg e0, if_neg e1])
theorem i_vc_apply {k : Nat} {u : SX} {v : SY} (I : i_Rel k u v) (hk : k + 5 ≤ 2560) (v1 : Int32) (v2 : Int32) (v3 : Int32) (v4 : Int32) : wpX_apply (fun r u' => wpY_apply (fun r' v' => r' = r ∧ i_Rel (k + 5) u' v') v v1 v2 v3 v4) u v1 v2 v3 v4 := by
  obtain ⟨lev, held, place, cells⟩ := u
  obtain ⟨rw, cl, has, now, pl, ta, si⟩ := v
  have I : re_R lev held place has := I
  have yin : ∀ {post : Int32 → Prop} {v : SY}, v1 = 0 ∨ v1 = 1 ∨ v1 = 2 → post 1 → wpY_in post v v1 0 2 := by
    intro post v ho hp
    rcases ho with e | e | e
    · subst e; exact ys_in (by decide) (by decide) hp
    · subst e; exact ys_in (by decide) (by decide) hp
    · subst e; exact ys_in (by decide) (by decide) hp
  unfold wpX_apply wpY_apply
  dsimp only
  rcases rg_cases v2 with hb | ⟨d, hd, rfl⟩
  · refine xs_reg_bad hb (br_t rfl ?_)
    rcases op_cases v1 with ob | ho
    · exact ys_in_bad ob (br_t rfl ⟨rfl, I⟩)
    · exact yin ho (br_f (by decide) (ys_reg_bad hb (br_t rfl ⟨rfl, I⟩)))
  refine xs_reg hd (br_f (by decide) ?_)
  rcases rg_cases v3 with hb | ⟨a, ha, rfl⟩
  · refine xs_reg_bad hb (br_t rfl ?_)
    rcases op_cases v1 with ob | ho
    · exact ys_in_bad ob (br_t rfl ⟨rfl, I⟩)
    · exact yin ho (br_f (by decide) (ys_reg hd (br_f (by decide) (ys_reg_bad hb (br_t rfl ⟨rfl, I⟩)))))
  refine xs_reg ha (br_f (by decide) ?_)
  rcases rg_cases v4 with hb | ⟨b, hb, rfl⟩
  · refine xs_reg_bad hb (br_t rfl ?_)
    rcases op_cases v1 with ob | ho
    · exact ys_in_bad ob (br_t rfl ⟨rfl, I⟩)
    · exact yin ho (br_f (by decide) (ys_reg hd (br_f (by decide) (ys_reg ha (br_f (by decide) (ys_reg_bad hb (br_t rfl ⟨rfl, I⟩)))))))
  refine xs_reg hb (br_f (by decide) ?_)
  rcases op_cases v1 with ob | ho
  · by_cases h0 : v1 < 0
    · exact br_t h0 (ys_in_bad ob (br_t rfl ⟨rfl, I⟩))
    · exact br_f h0 (br_t (ob.resolve_left h0) (ys_in_bad ob (br_t rfl ⟨rfl, I⟩)))
  have J := I.2.2 a ha
  have K := I.2.2 b hb
  have va : vp_in (nI a) 4 := vp_in_nI ha (by decide)
  have vb : vp_in (nI b) 4 := vp_in_nI hb (by decide)
  have vd : vp_in (nI d) 4 := vp_in_nI hd (by decide)
  rw [xs_cl (j := a) (by omega), xs_cl (j := b) (by omega), xs_cl (j := d) (by omega)]
  have fin : ∀ (o : Nat) (m : Int64), (o = 0 ∨ o = 1 ∨ o = 2) → v1 = nI o → (∀ t, t < 64 → mk_b m t = xs_op o (held a) (held b) t) → wpY_in (fun r_1 => ((r_1 = 0 → (0 : Int32) = 1 ∧ i_Rel (k + 5) (lev, vp_updL held d m, place, cells) (rw, cl, has, now, pl, ta, si)) ∧ (¬ r_1 = 0 → wpY_isRegister (fun r_10 => ((r_10 = 0 → (0 : Int32) = 1 ∧ i_Rel (k + 5) (lev, vp_updL held d m, place, cells) (rw, cl, has, now, pl, ta, si)) ∧ (¬ r_10 = 0 → wpY_isRegister (fun r_19 => ((r_19 = 0 → (0 : Int32) = 1 ∧ i_Rel (k + 5) (lev, vp_updL held d m, place, cells) (rw, cl, has, now, pl, ta, si)) ∧ (¬ r_19 = 0 → wpY_isRegister (fun r_28 => ((r_28 = 0 → (0 : Int32) = 1 ∧ i_Rel (k + 5) (lev, vp_updL held d m, place, cells) (rw, cl, has, now, pl, ta, si)) ∧ (¬ r_28 = 0 → ∃ n40, wY_apply_40 (fun r' v' => r' = 1 ∧ i_Rel (k + 5) (lev, vp_updL held d m, place, cells) v') v1 (nI d) (nI a) (nI b) rw cl n40 1 has now pl ta si))) (rw, cl, has, now, pl, ta, si) (nI b)))) (rw, cl, has, now, pl, ta, si) (nI a)))) (rw, cl, has, now, pl, ta, si) (nI d)))) (rw, cl, has, now, pl, ta, si) v1 0 2 := by
    intro o m o3 eo hm
    refine yin ho (br_f (by decide) (ys_reg hd (br_f (by decide) (ys_reg ha (br_f (by decide) (ys_reg hb (br_f (by decide) ?_)))))))
    rw [eo]
    exact ys_apply o3 hd ha hb J.2 K.2 (fun has' now' f1 f2 => ⟨rfl, re_put I f1 (re_op J.1 K.1 hm) (re_Hof hm f2)⟩)
  rcases ho with e | e | e
  · refine br_f (by rw [e]; decide) (br_f (by rw [e]; decide) (br_t e ⟨va, vb, vd, fun y ey => ?_⟩))
    rw [ey]
    exact fin 0 _ (Or.inl rfl) e (fun t ht => by rw [mk_or]; rfl)
  · refine br_f (by rw [e]; decide) (br_f (by rw [e]; decide) (br_f (by rw [e]; decide) (br_t e ⟨va, vb, vd, fun y ey => ?_⟩)))
    rw [ey]
    exact fin 1 _ (Or.inr (Or.inl rfl)) e (fun t ht => by rw [mk_and]; rfl)
  · refine br_f (by rw [e]; decide) (br_f (by rw [e]; decide) (br_f (by rw [e]; decide) (br_f (by rw [e]; decide) (br_t e ⟨va, xs_dualOf (fun m hm => ⟨vd, fun y ey => ?_⟩)⟩))))
    rw [ey]
    exact fin 2 m (Or.inr (Or.inr rfl)) e (fun t ht => by rw [hm t ht]; rfl)
