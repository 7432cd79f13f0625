/-! the reference writes the edges -/
theorem yt_bit : ∀ s, s < 64 → ∀ v, v < 6 → nI (ed_pc (s % 2 ^ v)) + ((nI s >>> (nI v &&& 31)) &&& 1) = nI (ed_pc (s % 2 ^ (v + 1))) := by decide +kernel
theorem yt_par : ∀ n, n < 7 → (nI n - nI n / 2 * 2 = 0 ↔ n % 2 = 0) := by decide +kernel
theorem yt_factor {post : Int32 → Prop} {u : SY} {t v : Nat} (ht : t < 64) (hv : v ≤ 6) (hp : post (xt_sg (ed_pc (t % 2 ^ v)))) : wpY_factor post u (nI t) (nI v) := by
  obtain ⟨rw, cl, has, now, pl, ta, si⟩ := u
  have l : ∀ d i, i + d = v → wY_factor_5 post (nI t) (nI v) rw cl has now pl ta si (d + 1) (nI (ed_pc (t % 2 ^ i))) (nI i) := by
    intro d
    induction d with
    | zero =>
      intro i hi
      have e : i = v := by omega
      subst e
      have hle := ed_pc_le (t % 2 ^ i)
      refine br_t (nI_le (Nat.le_refl i) (by omega)) ⟨by decide, ?_⟩
      by_cases e : ed_pc (t % 2 ^ i) % 2 = 0
      · refine br_t ((yt_par _ (by omega)).mpr e) ?_
        unfold xt_sg at hp
        rw [if_pos e] at hp
        exact hp
      · refine br_f (fun z => e ((yt_par _ (by omega)).mp z)) ?_
        unfold xt_sg at hp
        rw [if_neg e] at hp
        exact hp
    | succ d ih =>
      intro i hi
      refine br_f (nI_ge (by omega) (by omega)) (fun y ey z ez => ?_)
      rw [ey, ez, yt_bit t ht i (by omega), nI_1]
      exact ih (i + 1) (by omega)
  have := l v 0 (by omega)
  rw [show t % 2 ^ 0 = 0 from Nat.mod_one t] at this
  exact ⟨v + 1, this⟩
theorem yt_part : ∀ v, v < 6 → ∀ t, t < 64 → nI t &&& (nI (2 ^ v) ^^^ (-1)) = nI (if t.testBit v = true then t ^^^ 2 ^ v else t) := by decide +kernel
theorem yt_63 : ∀ p, p < 64 → nI p &&& 63 = nI p := by decide +kernel
theorem yt_ne : ∀ v, v < 6 → ∀ t, t < 64 → t.testBit v = true → t ^^^ 2 ^ v ≠ t := by decide +kernel
theorem yt_ix (a b : Nat) : (20 : Int32) * nI a + nI b = nI (20 * a + b) := by
  show nI 20 * nI a + nI b = _
  rw [show nI 20 * nI a = nI (20 * a) from (Int32.ofNat_mul 20 a).symm, nI_add]
theorem yt_sgL : ∀ n, n < 7 → (xt_sg n).toInt64.toInt = dt_sg n := by decide +kernel
/-- now holds the family S -/
def yt_N (now : Nat → Int32) (S : Nat → Bool) : Prop := ∀ s, 1 ≤ s → s < 64 → now s = if S s = true then 1 else 0
theorem yt_ask {now : Nat → Int32} {S : Nat → Bool} {s : Nat} {A B : Prop} (h : yt_N now S) (h1 : 1 ≤ s) (hs : s < 64) (hf : S s = false → A) (ht : S s = true → B) : vp_in (nI s) 64 ∧ ((now (nI s).toNatClampNeg = 0 → A) ∧ (¬ now (nI s).toNatClampNeg = 0 → B)) := by
  refine ⟨vp_in_nI hs (by decide), ?_⟩
  rw [xs_cl (by omega), h s h1 hs]
  cases hb : S s
  · exact br_t rfl (hf hb)
  · exact br_f (by decide) (ht hb)
theorem yt_selne {f : Nat → Bool} {i p : Nat} (hp : p < 64) (hi : i ≠ cn_c f p) : cn_sel f i 64 64 ≠ p := by
  intro z
  by_cases h : i < cn_c f 64
  · have := (cn_sel_ok (d := 64) h).2.1
    rw [z] at this
    exact hi this.symm
  · rw [cn_sel_no (by omega)] at z
    omega
theorem yt_col {post : SY → Prop} {R j0 : Nat} {has now pl si : Nat → Int32} {ta : Nat → Int64} {S : Nat → Bool} {k t : Nat} (hN : yt_N now S) (hk : 1 ≤ k) (t1 : 1 ≤ t) (ht : t < 64) (htk : ed_pc t = k + 1) (hj0 : j0 < 20) (hpl : ∀ s, s < 64 → tb_r S k s = true → pl s = nI (cn_c (tb_r S k) s)) (h0 : ∀ i, i < 20 → (ta (20 * i + j0)).toInt = 0) (hp : ∀ ta', (∀ i j, i < 20 → j < 20 → j ≠ j0 → ta' (20 * i + j) = ta (20 * i + j)) → (∀ i, i < 20 → xt_G S t 6 (cn_sel (tb_r S k) i 64 64) (ta' (20 * i + j0)).toInt) → post (nI R, nI j0, has, now, pl, ta', si)) : wpY_addColumn post (nI R, nI j0, has, now, pl, ta, si) (nI t) := by
  have R20 := tb_R20 S k
  have l : ∀ d v c, v + d = 6 → (∀ i j, i < 20 → j < 20 → j ≠ j0 → c (20 * i + j) = ta (20 * i + j)) → (∀ i, i < 20 → xt_G S t v (cn_sel (tb_r S k) i 64 64) (c (20 * i + j0)).toInt) → wY_addColumn_2 post (nI t) (nI R) (nI j0) (d + 1) (nI v) has now pl c si := by
    intro d
    induction d with
    | zero =>
      intro v c hv h1 h2
      have e : v = 6 := by omega
      subst e
      exact br_t ys_ge6 (hp c h1 h2)
    | succ d ih =>
      intro v c hv h1 h2
      have hv6 : v < 6 := by omega
      obtain ⟨e1, e2, e3⟩ := pi_v v hv6
      have hple := ed_pc_le (t % 2 ^ v)
      refine br_f (ys_lt6 hv6) (fun y ey => ?_)
      rw [e1, yt_part v hv6 t ht] at ey
      by_cases hb : t.testBit v = true
      · rw [if_pos hb] at ey
        obtain ⟨g1, g2, g3, g4⟩ := xt_g6a t ht v hv6 hb
        have hne := yt_ne v hv6 t ht hb
        have p1 : 1 ≤ t ^^^ 2 ^ v := by
          apply Classical.byContradiction
          intro z
          have e : t ^^^ 2 ^ v = 0 := by omega
          rw [e, htk] at g2
          have : ed_pc 0 = 0 := rfl
          omega
        have same : (∀ i, i < 20 → xt_G S t (v + 1) (cn_sel (tb_r S k) i 64 64) (c (20 * i + j0)).toInt) → wY_addColumn_2 post (nI t) (nI R) (nI j0) (d + 1) (nI (v + 1)) has now pl c si := fun z => ih (v + 1) c (by omega) h1 z
        refine br_f (fun z => hne ((nI_eq (by omega) (by omega)).mp (ey.symm.trans z))) ?_
        rw [ey, yt_63 _ g3]
        refine yt_ask hN p1 g3 (fun hS => ?_) (fun hS => ⟨vp_in_nI g3 (by decide), ?_⟩)
        · intro y2 ey2
          rw [ey2, nI_1]
          refine same (fun i hi => ?_)
          rcases h2 i hi with ⟨a, b, c⟩ | ⟨a, c⟩
          · exact Or.inl ⟨a, xt_gs.mpr (Or.inl b), c⟩
          · refine Or.inr ⟨fun z => ?_, c⟩
            rcases xt_gs.mp z.2 with q | q
            · exact a ⟨z.1, q⟩
            · have := z.1
              rw [q.2, hS] at this
              exact absurd this (by decide)
        · have hr : tb_r S k (t ^^^ 2 ^ v) = true := tb_r_ok.mpr ⟨p1, hS, by omega⟩
          have hlt := cn_lt g3 hr
          refine yt_factor ht (by omega) ?_
          rw [xs_cl (show t ^^^ 2 ^ v < 1000 by omega), hpl _ g3 hr, yt_ix, xt_cl (by omega) hj0]
          refine ⟨xt_vi (by omega) hj0, fun y3 ey3 y4 ey4 => ?_⟩
          rw [ey3, ey4, nI_1]
          refine ih (v + 1) _ (by omega) (fun i j hi hj hne => ?_) (fun i hi => ?_)
          · rw [xs_uLn (by omega)]; exact h1 i j hi hj hne
          · by_cases e : i = cn_c (tb_r S k) (t ^^^ 2 ^ v)
            · subst e
              rw [xs_uLs, cn_sel_at g3 hr rfl]
              refine Or.inl ⟨hS, xt_gs.mpr (Or.inr ⟨hb, rfl⟩), ?_⟩
              rw [yt_sgL _ (by omega), g4]
            · rw [xs_uLn (by omega)]
              have hne2 := yt_selne g3 e
              rcases h2 i hi with ⟨a, b, c⟩ | ⟨a, c⟩
              · exact Or.inl ⟨a, xt_gs.mpr (Or.inl b), c⟩
              · refine Or.inr ⟨fun z => ?_, c⟩
                rcases xt_gs.mp z.2 with q | q
                · exact a ⟨z.1, q⟩
                · exact hne2 q.2
      · rw [if_neg hb] at ey
        refine br_t ey (fun y2 ey2 => ?_)
        rw [ey2, nI_1]
        refine ih (v + 1) c (by omega) h1 (fun i hi => ?_)
        rcases h2 i hi with ⟨a, b, c⟩ | ⟨a, c⟩
        · exact Or.inl ⟨a, xt_gs.mpr (Or.inl b), c⟩
        · refine Or.inr ⟨fun z => ?_, c⟩
          rcases xt_gs.mp z.2 with q | q
          · exact a ⟨z.1, q⟩
          · exact hb q.1
  exact ⟨7, l 6 0 ta rfl (fun _ _ _ _ _ => rfl) (fun i hi => Or.inr ⟨fun z => xt_g0 z.2, h0 i hi⟩)⟩
/-- what the table is good for -/
def yt_ok (S : Nat → Bool) (k R C : Nat) (ta : Nat → Int64) : Prop := R ≤ 20 ∧ C ≤ 20 ∧ (∀ q r, rk_R q (tb_Y R C ta) r → rk_R q (ed_S S k) r) ∧ rk_M 2 (tb_Y R C ta) ∧ ∀ i j, i < 20 → j < 20 → -1 ≤ (ta (20 * i + j)).toInt ∧ (ta (20 * i + j)).toInt ≤ 1
theorem yt_l0 : (0 : Int64).toInt = 0 := by decide
theorem yt_make {post : SY → Prop} {rw cl : Int32} {has now pl si : Nat → Int32} {ta : Nat → Int64} {S : Nat → Bool} {k : Nat} (hk : k ≤ 5) (hN : yt_N now S) (hp : ∀ R C pl' ta', yt_ok S k R C ta' → (∀ i j, i < 20 → j < 20 → ¬ (i < R ∧ j < C) → ta' (20 * i + j) = 0) → post (nI R, nI C, has, now, pl', ta', si)) : wpY_makeTable post (rw, cl, has, now, pl, ta, si) (nI k) := by
  have R20 := tb_R20 S k
  have C20 := tb_R20 S (k + 1)
  -- the columns
  have l3 : 1 ≤ k → ∀ pl', (∀ s, s < 64 → tb_r S k s = true → pl' s = nI (cn_c (tb_r S k) s)) → ∀ d s c, s + d = 64 → 1 ≤ s → (∀ i j, i < 20 → j < 20 → (c (20 * i + j)).toInt = if j < cn_c (tb_r S (k + 1)) s then ed_S S k (cn_sel (tb_r S k) i 64 64) (cn_sel (tb_r S (k + 1)) j 64 64) else 0) → wY_makeTable_88 post (nI k) (d + 1) (nI s) (nI (cn_c (tb_r S k) 64)) (nI (cn_c (tb_r S (k + 1)) s)) has now pl' c si := by
    intro hk1 pl' hpl d
    induction d with
    | zero =>
      intro s c hs _ h
      have e : s = 64 := by omega
      subst e
      have hY : tb_hY S k (cn_c (tb_r S k) 64) (cn_c (tb_r S (k + 1)) 64) c := ⟨rfl, rfl, fun i j hi hj => by rw [h i j (by omega) (by omega), if_pos hj]⟩
      refine br_t ys_ge64 (hp _ _ pl' c ⟨R20, C20, fun q r z => tb_Y_R hY z, tb_Y_M hY, fun i j hi hj => ?_⟩ (fun i j hi hj z => ?_))
      · rw [h i j hi hj]
        split
        · exact xv_S _ _ _ _
        · omega
      · apply Int64.toInt_inj.mp
        rw [h i j hi hj, yt_l0]
        by_cases q : j < cn_c (tb_r S (k + 1)) 64
        · rw [if_pos q, cn_sel_no (f := tb_r S k) (by omega), ed_S_out (Or.inl (Nat.le_refl 64))]
        · rw [if_neg q]
    | succ d ih =>
      intro s c hs h1 h
      have hs64 : s < 64 := by omega
      have hn := fun c => ih (s + 1) c (by omega) (by omega)
      have hpc := ed_pc_le s
      have stay : tb_r S (k + 1) s = false → wY_makeTable_88 post (nI k) (d + 1) (nI (s + 1)) (nI (cn_c (tb_r S k) 64)) (nI (cn_c (tb_r S (k + 1)) s)) has now pl' c si := by
        intro hf
        have := hn c
        rw [cn_s, hf] at this
        exact this h
      refine br_f (ys_lt64 hs64) (yt_ask hN h1 hs64 (fun hS => ?_) (fun hS => ys_degree hs64 ?_))
      · intro y ey
        rw [ey, nI_1]
        exact stay (by unfold tb_r; simp [hS])
      · by_cases e : ed_pc s = k + 1
        · refine br_t ((ys_dk _ (by omega) k (by omega)).mpr e) (br_f (nI_nle (by omega) (by omega)) ?_)
          have hr : tb_r S (k + 1) s = true := tb_r_ok.mpr ⟨h1, hS, e⟩
          have hlt := cn_lt hs64 hr
          refine yt_col hN hk1 h1 hs64 e (by omega) hpl (fun i hi => ?_) (fun c' c1 c2 => ?_)
          · rw [h i _ hi (by omega), if_neg (by omega)]
          · intro y ey z ez
            have := hn c'
            rw [cn_s, hr] at this
            rw [ey, ez, nI_1, nI_1]
            refine this (fun i j hi hj => ?_)
            show _ = if j < cn_c (tb_r S (k + 1)) s + 1 then _ else _
            by_cases ej : j = cn_c (tb_r S (k + 1)) s
            · subst ej
              rw [if_pos (by omega), cn_sel_at hs64 hr rfl]
              by_cases hsel : cn_sel (tb_r S k) i 64 64 < 64
              · exact xt_SD hk1 hsel hs64 e hS (c2 i hi)
              · rw [ed_S_out (Or.inl (by omega))]
                rcases c2 i hi with ⟨a, b, q⟩ | ⟨a, q⟩
                · exfalso
                  obtain ⟨u, u1, u2, u3⟩ := b
                  have := xt_g6a s hs64 u u1 u2
                  omega
                · exact q
            · rw [c1 i j hi hj ej, h i j hi hj]
              by_cases q : j < cn_c (tb_r S (k + 1)) s
              · rw [if_pos q, if_pos (by omega)]
              · rw [if_neg q, if_neg (by omega)]
        · refine br_f (fun z => e ((ys_dk _ (by omega) k (by omega)).mp z)) (fun y ey => ?_)
          rw [ey, nI_1]
          exact stay (by unfold tb_r; simp [e])
  -- no columns at all for k = 0
  have l3z : k = 0 → ∀ pl' c, (∀ i j, i < 20 → j < 20 → c (20 * i + j) = 0) → ∀ d s, s + d = 64 → 1 ≤ s → wY_makeTable_88 post (nI k) (d + 1) (nI s) (nI 0) (nI 0) has now pl' c si := by
    intro k0 pl' c hz d
    induction d with
    | zero =>
      intro s hs _
      have e : s = 64 := by omega
      subst e
      have t0 : ∀ i j, tb_Y 0 0 c i j = 0 := fun i j => by unfold tb_Y; rw [if_neg (by omega)]
      have s0 : ∀ i j, ed_S S k i j = 0 := fun i j => by
        unfold ed_S ed_D
        rw [if_neg (show ¬ (i < 64 ∧ j < 64 ∧ 1 ≤ k ∧ ed_pc j = k + 1) by omega)]
        split <;> rfl
      refine br_t ys_ge64 (hp 0 0 pl' c ⟨by omega, by omega, fun q r z => ?_, ?_, fun i j hi hj => ?_⟩ (fun i j hi hj _ => hz i j hi hj))
      · exact rk_R_re (fun i => i) (fun j => j) (fun i => i) (fun j => j) (fun i j => by rw [t0, s0]) (fun i j => by rw [t0, s0]) z
      · rw [show tb_Y 0 0 c = fun _ _ => 0 from funext fun i => funext fun j => t0 i j]
        exact ce_le (by decide) ce_nil
      · rw [hz i j hi hj, yt_l0]; omega
    | succ d ih =>
      intro s hs h1
      have hs64 : s < 64 := by omega
      have hn := ih (s + 1) (by omega) (by omega)
      refine br_f (ys_lt64 hs64) (yt_ask hN h1 hs64 (fun hS => ?_) (fun hS => ys_degree hs64 ?_))
      · intro y ey
        rw [ey, nI_1]; exact hn
      · refine br_c (fun _ => br_t (by subst k0; exact nI_le (a := 0) (b := 0) (by omega) (by decide)) (fun y ey => ?_)) (fun _ y ey => ?_)
        · rw [ey, nI_1]; exact hn
        · rw [ey, nI_1]; exact hn
  -- the rows
  have l2 : ∀ c, (∀ i j, i < 20 → j < 20 → c (20 * i + j) = 0) → ∀ d s pl', s + d = 64 → 1 ≤ s → (∀ t, t < s → tb_r S k t = true → pl' t = nI (cn_c (tb_r S k) t)) → wY_makeTable_34 post (nI k) (nI 0) (d + 1) (nI s) (nI (cn_c (tb_r S k) s)) has now pl' c si := by
    intro c hz d
    induction d with
    | zero =>
      intro s pl' hs _ h
      have e : s = 64 := by omega
      subst e
      refine br_t ys_ge64 ?_
      by_cases hk1 : 1 ≤ k
      · refine ⟨64, ?_⟩
        have := l3 hk1 pl' h 63 1 c rfl (by omega) (fun i j hi hj => by
          rw [hz i j hi hj, if_neg]
          · rfl
          · show ¬ j < cn_c (tb_r S (k + 1)) 1
            rw [cn_s, show tb_r S (k + 1) 0 = false from rfl]
            show ¬ j < 0 + 0
            omega)
        rw [show cn_c (tb_r S (k + 1)) 1 = 0 by rw [cn_s]; rfl] at this
        exact this
      · have k0 : k = 0 := by omega
        have e0 : cn_c (tb_r S k) 64 = 0 := by
          have : cn_c (tb_r S k) 64 ≤ cn_c (fun _ => false) 64 := cn_imp (fun i hi z => by
            obtain ⟨a, _, b⟩ := tb_r_ok.mp z
            have := xs_pc1 i hi a
            omega)
          have e : cn_c (fun _ => false) 64 = 0 := by decide
          omega
        rw [e0]
        exact ⟨64, l3z k0 pl' c hz 63 1 rfl (by omega)⟩
    | succ d ih =>
      intro s pl' hs h1 h
      have hs64 : s < 64 := by omega
      have hpc := ed_pc_le s
      have stay : tb_r S k s = false → wY_makeTable_34 post (nI k) (nI 0) (d + 1) (nI (s + 1)) (nI (cn_c (tb_r S k) s)) has now pl' c si := by
        intro hf
        have := ih (s + 1) pl' (by omega) (by omega)
        rw [cn_s, hf] at this
        refine this (fun t t1 t2 => ?_)
        by_cases e : t = s
        · rw [e, hf] at t2; exact absurd t2 (by decide)
        · exact h t (by omega) t2
      refine br_f (ys_lt64 hs64) (yt_ask hN h1 hs64 (fun hS => ?_) (fun hS => ys_degree hs64 ?_))
      · intro y ey
        rw [ey, nI_1]
        exact stay (by unfold tb_r; simp [hS])
      · by_cases e : ed_pc s = k
        · have hr : tb_r S k s = true := tb_r_ok.mpr ⟨h1, hS, e⟩
          refine br_t ((ys_dk1 _ (by omega) k (by omega)).mpr e) ⟨vp_in_nI hs64 (by decide), fun y ey z ez w ew => ?_⟩
          have := ih (s + 1) y (by omega) (by omega)
          rw [cn_s, hr] at this
          rw [ez, ew, nI_1, nI_1]
          refine this (fun t t1 t2 => ?_)
          rw [ey, xs_cl (by omega)]
          by_cases e : t = s
          · subst e; rw [xs_us]
          · rw [xs_un e]; exact h t (by omega) t2
        · refine br_f (fun z => e ((ys_dk1 _ (by omega) k (by omega)).mp z)) (fun y ey => ?_)
          rw [ey, nI_1]
          exact stay (by unfold tb_r; simp [e])
  have l1 : ∀ d i c, i + d = 400 → (∀ j, j < i → c j = 0) → wY_makeTable_12 post (nI k) 0 0 (d + 1) (nI i) has now pl c si := by
    intro d
    induction d with
    | zero =>
      intro i c hi h
      have e : i = 400 := by omega
      subst e
      refine br_t (nI_le (a := 400) (b := 400) (by omega) (by decide)) ⟨64, ?_⟩
      have := l2 c (fun i j hi hj => h _ (by omega)) 63 1 pl rfl (by omega) (fun t t1 t2 => by
        have e : t = 0 := by omega
        rw [e] at t2
        exact absurd (tb_r_ok.mp t2).1 (by omega))
      rw [show cn_c (tb_r S k) 1 = 0 by rw [cn_s]; rfl] at this
      exact this
    | succ d ih =>
      intro i c hi h
      refine br_f (nI_ge (b := 400) (by omega) (by decide)) ⟨vp_in_nI (by omega) (by decide), fun y ey z ez => ?_⟩
      rw [ey, ez, nI_1, xs_cl (by omega)]
      refine ih (i + 1) _ (by omega) (fun j hj => ?_)
      by_cases e : j = i
      · subst e; rw [xs_uLs]
      · rw [xs_uLn e]; exact h j (by omega)
  exact ⟨401, l1 400 0 ta rfl (fun j hj => by omega)⟩
