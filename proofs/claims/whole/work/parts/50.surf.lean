/-! surfaces: the sets, the facets, the parts -/
/-- all facets have d + 1 vertices, and there is one -/
def sc_D (x : Int64) (d : Nat) : Prop := (∃ t, t < 64 ∧ xs_fa x t = true) ∧ ∀ t, t < 64 → xs_fa x t = true → ed_pc t = d + 1
theorem sc_fa1 {x : Int64} {t : Nat} (h : xs_fa x t = true) : 1 ≤ t ∧ mk_b x t = true := by
  unfold xs_fa at h
  rw [Bool.and_eq_true, Bool.and_eq_true, decide_eq_true_iff] at h
  exact ⟨h.1, h.2.1⟩
theorem sc_uni {x : Int64} {d e : Nat} (h : sc_D x d) (h' : sc_D x e) : d = e := by
  obtain ⟨t, ht, hf⟩ := h.1
  have a := h.2 t ht hf
  have b := h'.2 t ht hf
  omega
theorem xc_common {post : Int32 → Prop} {x w : Int64} (hw : ∀ t, t < 64 → mk_b w t = xs_fa x t) (h1 : ∀ d, d < 6 → sc_D x d → post (nI d)) (h2 : (∀ d, d < 6 → ¬ sc_D x d) → post (-2)) : wpX_commonDegree post w := by
  have l : ∀ m k, k + m = 6 → (∀ d, d < k → ¬ sc_D x d) → wX_commonDegree_2 post w (m + 1) (nI k) := by
    intro m
    induction m with
    | zero =>
      intro k hk h
      have e : k = 6 := by omega
      subst e
      exact br_t (nI_lt (a := 5) (b := 6) (by omega) (by decide)) (h2 h)
    | succ m ih =>
      intro k hk h
      refine br_f (fun z => absurd ((nI_ltI (a := 5) (by decide) (by omega)).mp z) (by omega)) ?_
      have next : ¬ sc_D x k → wX_commonDegree_2 post w (m + 1) (nI (k + 1)) := fun no => ih (k + 1) (by omega) (fun d hd => by
        by_cases e : d = k
        · rw [e]; exact no
        · exact h d (by omega))
      by_cases w0 : w = 0
      · refine br_t w0 (fun y ey => ?_)
        rw [ey, nI_1]
        refine next (fun hD => ?_)
        obtain ⟨t, ht, hf⟩ := hD.1
        rw [← hw t ht, w0, mk_0] at hf
        exact absurd hf (by decide)
      · refine br_f w0 (xs_ofDegree (by omega) (fun r hr => ?_))
        by_cases e : r = w
        · refine br_t e (h1 k (by omega) ⟨?_, fun t ht hf => ?_⟩)
          · apply Classical.byContradiction
            intro no
            apply w0
            apply mk_ext
            intro i hi
            rw [mk_0]
            cases hb : mk_b w i
            · rfl
            · rw [hw i hi] at hb
              exact absurd ⟨i, hi, hb⟩ no
          · rw [← hw t ht, ← e, hr t ht] at hf
            unfold xs_dg at hf
            rw [Bool.and_eq_true, Bool.and_eq_true, decide_eq_true_iff, decide_eq_true_iff] at hf
            exact hf.2.2
        · refine br_f e (fun y ey => ?_)
          rw [ey, nI_1]
          refine next (fun hD => e (mk_ext (fun i hi => ?_)))
          rw [hr i hi]
          unfold xs_dg
          cases hb : mk_b w i
          · simp
          · rw [hw i hi] at hb
            have a := sc_fa1 hb
            have b := hD.2 i hi hb
            simp [a.1, b]
  exact ⟨7, l 6 0 rfl (fun d hd => by omega)⟩
/-- each part of d vertices lies in two facets -/
def sc_T (x : Int64) (d : Nat) : Prop := ∀ s, 1 ≤ s → s < 64 → mk_b x s = true → ed_pc s = d → cn_c (fun t => xs_fa x t && decide (s &&& t = s)) 64 = 2
theorem xc_two {post : Int32 → Prop} {x w : Int64} {d : Nat} (hd : 1 ≤ d) (hd6 : d < 6) (hw : ∀ t, t < 64 → mk_b w t = xs_fa x t) (h1 : sc_T x d → post 1) (h0 : ¬ sc_T x d → post 0) : wpX_liesInTwoEach post x w (nI d) := by
  unfold wpX_liesInTwoEach
  have e1 : nI d - 1 = nI (d - 1) := by
    have := xk_sub (a := d) (b := 1) hd
    exact this
  rw [e1]
  refine xs_ofDegree (by omega) (fun r hr => ?_)
  rw [show d - 1 + 1 = d by omega] at hr
  have l : ∀ m s, s + m = 64 → 1 ≤ s → (∀ q, 1 ≤ q → q < s → mk_b x q = true → ed_pc q = d → cn_c (fun t => xs_fa x t && decide (q &&& t = q)) 64 = 2) → wX_liesInTwoEach_13 post w r (m + 1) (nI s) := by
    intro m
    induction m with
    | zero =>
      intro s hs _ h
      have e : s = 64 := by omega
      subst e
      exact br_t xs_gt64 (h1 h)
    | succ m ih =>
      intro s hs hs1 h
      have hs64 : s < 64 := by omega
      have next : (mk_b x s = true → ed_pc s = d → cn_c (fun t => xs_fa x t && decide (s &&& t = s)) 64 = 2) → wX_liesInTwoEach_13 post w r (m + 1) (nI (s + 1)) := fun z => ih (s + 1) (by omega) (by omega) (fun q q1 q2 => by
        by_cases e : q = s
        · rw [e]; exact z
        · exact h q q1 (by omega))
      refine br_f (xs_gt hs64) (xs_isIn hs64 (fun hb => ?_) (fun hb => ?_))
      · rw [hr s hs64] at hb
        unfold xs_dg at hb
        rw [Bool.and_eq_true, Bool.and_eq_true, decide_eq_true_iff, decide_eq_true_iff] at hb
        refine br_f (by decide) (xs_wholes hs64 ?_)
        have ec : cn_c (xs_wh w s) 64 = cn_c (fun t => xs_fa x t && decide (s &&& t = s)) 64 := cn_congr (fun t ht => by unfold xs_wh; rw [hw t ht])
        rw [ec]
        have hc := cn_le (fun t => xs_fa x t && decide (s &&& t = s)) 64
        by_cases e : cn_c (fun t => xs_fa x t && decide (s &&& t = s)) 64 = 2
        · refine br_t (by rw [e]; rfl) (fun y ey => ?_)
          rw [ey, nI_1]
          exact next (fun _ _ => e)
        · exact br_f (fun z => e ((nI_eq (b := 2) (by omega) (by decide)).mp z)) (h0 (fun hT => e (hT s hs1 hs64 hb.2.1 hb.2.2)))
      · refine br_t rfl (fun y ey => ?_)
        rw [ey, nI_1]
        refine next (fun a b => ?_)
        rw [hr s hs64] at hb
        unfold xs_dg at hb
        simp [hs1, a, b] at hb
  exact ⟨64, l 63 1 rfl (by omega) (fun q q1 q2 => by omega)⟩
/-! every set lies in a facet -/
theorem sc_up {x : Int64} : ∀ m t, t + m = 64 → 1 ≤ t → t < 64 → mk_b x t = true → ∃ f, f < 64 ∧ xs_fa x f = true ∧ t &&& f = t := by
  intro m
  induction m using Nat.strongRecOn with
  | _ m ih =>
    intro t htm t1 ht hb
    by_cases hf : xs_fa x t = true
    · exact ⟨t, ht, hf, Nat.and_self t⟩
    · have no : ¬ ∀ s, t < s → s < 64 → xs_wh x t s = false := fun z => hf (by unfold xs_fa; rw [(fa_iff ht hb).mpr z, hb]; simp [t1])
      obtain ⟨s, hs⟩ := Classical.not_forall.mp no
      have hs1 : t < s := Classical.byContradiction fun z => hs fun y => absurd y z
      have hs2 : s < 64 := Classical.byContradiction fun z => hs fun _ y => absurd y z
      have hs3 : xs_wh x t s = true := by
        cases hh : xs_wh x t s
        · exact absurd (fun _ _ => hh) hs
        · rfl
      unfold xs_wh at hs3
      rw [Bool.and_eq_true, decide_eq_true_iff] at hs3
      obtain ⟨f, f1, f2, f3⟩ := ih (64 - s) (by omega) s (by omega) (by omega) hs2 hs3.1
      exact ⟨f, f1, f2, re_tr hs3.2 f3⟩
theorem sc_eq : ∀ s, s < 64 → ∀ t, t < 64 → s &&& t = s → ed_pc s = ed_pc t → s = t := by decide +kernel
theorem sc_lt : ∀ s, s < 64 → ∀ t, t < 64 → s ≠ t → ed_pc s = ed_pc t → ed_pc (s &&& t) < ed_pc s := by decide +kernel
theorem sc_top {x : Int64} {d t : Nat} (hD : sc_D x d) (t1 : 1 ≤ t) (ht : t < 64) (hb : mk_b x t = true) : ed_pc t ≤ d + 1 := by
  obtain ⟨f, f1, f2, f3⟩ := sc_up (64 - t) t (by omega) t1 ht hb
  have := re_pc t ht f f1 f3
  have := hD.2 f f1 f2
  omega
theorem sc_isfa {x : Int64} {d t : Nat} (hD : sc_D x d) (t1 : 1 ≤ t) (ht : t < 64) (hb : mk_b x t = true) (hp : ed_pc t = d + 1) : xs_fa x t = true := by
  obtain ⟨f, f1, f2, f3⟩ := sc_up (64 - t) t (by omega) t1 ht hb
  have := hD.2 f f1 f2
  rw [sc_eq t ht f f1 f3 (by omega)]
  exact f2
theorem sc_above0 {x : Int64} {d : Nat} (hD : sc_D x d) (i j : Nat) : ed_S (mk_b x) (d + 1) i j = 0 := by
  by_cases hj : 1 ≤ j ∧ j < 64 ∧ mk_b x j = true
  · have := sc_top hD hj.1 hj.2.1 hj.2.2
    exact tb_S0 (Or.inr (Or.inl (by omega)))
  · by_cases j0 : j = 0
    · exact tb_S0 (Or.inr (Or.inr (Or.inr (Or.inl j0))))
    · by_cases j64 : 64 ≤ j
      · exact ed_S_out (Or.inr j64)
      · have : mk_b x j = false := by
          cases h : mk_b x j
          · rfl
          · exact absurd ⟨by omega, by omega, h⟩ hj
        exact tb_S0 (Or.inr (Or.inr (Or.inr (Or.inr (Or.inr (Or.inr (Or.inr this)))))))
/-! the entries -/
theorem sc_W {x : Int64} {d i t : Nat} (hd : 1 ≤ d) (hi : i < 64) (ht : t < 64) (hbi : mk_b x i = true) (hbt : mk_b x t = true) (hp : ed_pc t = d + 1) : ed_S (mk_b x) d i t = ed_en i t := by
  unfold ed_S ed_D
  rw [if_pos ⟨hbi, hbt⟩, if_pos ⟨hi, ht, hd, hp⟩]
theorem sc_en {i t : Nat} (h : i &&& t = i) (hp : ed_pc t = ed_pc i + 1) : ed_en i t = 1 ∨ ed_en i t = -1 := by
  unfold ed_en
  rw [if_pos ⟨h, hp⟩]
  exact dt_sg_or _
theorem sc_row {x : Int64} {d : Nat} (hd : 1 ≤ d) (hx : re_C x) (hD : sc_D x d) (hT : sc_T x d) (i : Nat) : (∀ j, ed_S (mk_b x) d i j = 0) ∨ (1 ≤ i ∧ i < 64 ∧ mk_b x i = true ∧ ed_pc i = d ∧ ∃ a b, a < b ∧ b < 64 ∧ xs_fa x a = true ∧ xs_fa x b = true ∧ i &&& a = i ∧ i &&& b = i ∧ ∀ j, j ≠ a → j ≠ b → ed_S (mk_b x) d i j = 0) := by
  by_cases hi : 1 ≤ i ∧ i < 64 ∧ mk_b x i = true ∧ ed_pc i = d
  · right
    obtain ⟨i1, i2, i3, i4⟩ := hi
    obtain ⟨a, b, hab, hb, fa, fb, hall⟩ := sf_c2 (hT i i1 i2 i3 i4)
    rw [Bool.and_eq_true, decide_eq_true_iff] at fa fb
    refine ⟨i1, i2, i3, i4, a, b, hab, hb, fa.1, fb.1, fa.2, fb.2, fun j ja jb => ?_⟩
    by_cases hj : j < 64
    · by_cases hS : 1 ≤ j ∧ mk_b x j = true ∧ ed_pc j = d + 1
      · rw [sc_W hd i2 hj i3 hS.2.1 hS.2.2]
        unfold ed_en
        by_cases q : i &&& j = i ∧ ed_pc j = ed_pc i + 1
        · exfalso
          have := hall j hj (by
            rw [Bool.and_eq_true, decide_eq_true_iff]
            exact ⟨sc_isfa hD hS.1 hj hS.2.1 hS.2.2, q.1⟩)
          omega
        · rw [if_neg q]
      · by_cases p : ed_pc j = d + 1
        · by_cases j0 : j = 0
          · exact tb_S0 (Or.inr (Or.inr (Or.inr (Or.inl j0))))
          · have : mk_b x j = false := by
              cases h : mk_b x j
              · rfl
              · exact absurd ⟨by omega, h, p⟩ hS
            exact tb_S0 (Or.inr (Or.inr (Or.inr (Or.inr (Or.inr (Or.inr (Or.inr this)))))))
        · exact tb_S0 (Or.inr (Or.inl p))
    · exact ed_S_out (Or.inr (by omega))
  · left
    intro j
    by_cases p : ed_pc i = d
    · by_cases i0 : i = 0
      · exact tb_S0 (Or.inr (Or.inr (Or.inl i0)))
      · by_cases i64 : 64 ≤ i
        · exact ed_S_out (Or.inl i64)
        · have : mk_b x i = false := by
            cases h : mk_b x i
            · rfl
            · exact absurd ⟨by omega, by omega, h, p⟩ hi
          exact tb_S0 (Or.inr (Or.inr (Or.inr (Or.inr (Or.inr (Or.inr (Or.inl this)))))))
    · exact tb_S0 (Or.inl p)
theorem sc_2 {x : Int64} {d : Nat} (hd : 1 ≤ d) (hx : re_C x) (hD : sc_D x d) (hT : sc_T x d) : sf_2 (ed_S (mk_b x) d) := by
  intro i
  rcases sc_row hd hx hD hT i with z | ⟨i1, i2, i3, i4, a, b, hab, hb, fa, fb, ia, ib, hz⟩
  · exact Or.inl z
  · have pa := hD.2 a (by omega) fa
    have pb := hD.2 b hb fb
    refine Or.inr ⟨a, b, hab, hb, ?_, ?_, hz⟩
    · rw [sc_W hd i2 (by omega) i3 (sc_fa1 fa).2 pa]
      exact sc_en ia (by omega)
    · rw [sc_W hd i2 hb i3 (sc_fa1 fb).2 pb]
      exact sc_en ib (by omega)
/-! signs for facets that share a part -/
def sc_A (x : Int64) (d s t : Nat) : Prop := 1 ≤ s ∧ s < 64 ∧ 1 ≤ t ∧ t < 64 ∧ xs_fa x s = true ∧ xs_fa x t = true ∧ ed_pc (s &&& t) = d
def sc_t (s t : Nat) : Int := ed_en (s &&& t) s * ed_en (s &&& t) t
theorem sc_Asym {x : Int64} {d s t : Nat} (h : sc_A x d s t) : sc_A x d t s := ⟨h.2.2.1, h.2.2.2.1, h.1, h.2.1, h.2.2.2.2.2.1, h.2.2.2.2.1, by rw [Nat.and_comm]; exact h.2.2.2.2.2.2⟩
theorem sc_G1 {x : Int64} {d : Nat} (hd : 1 ≤ d) (hx : re_C x) (hD : sc_D x d) (hT : sc_T x d) {ε : Nat → Int} (hG : sf_G (ed_S (mk_b x) d) ε) {s t : Nat} (hA : sc_A x d s t) : ε s * ε t * sc_t s t = -1 := by
  obtain ⟨s1, s2, t1, t2, fs, ft, hp⟩ := hA
  have ps := hD.2 s s2 fs
  have pt := hD.2 t t2 ft
  have is : (s &&& t) &&& s = s &&& t := by rw [Nat.and_comm s t, Nat.and_assoc, Nat.and_self]
  have it : (s &&& t) &&& t = s &&& t := by rw [Nat.and_assoc, Nat.and_self]
  have hst : s ≠ t := fun z => by rw [z, Nat.and_self] at hp; omega
  have i1 : 1 ≤ s &&& t := by
    apply Classical.byContradiction
    intro z
    have : s &&& t = 0 := by omega
    rw [this] at hp
    have : ed_pc 0 = 0 := rfl
    omega
  have i2 : s &&& t < 64 := by have := st_and_le s t; omega
  have i3 : mk_b x (s &&& t) = true := hx.2 _ s i1 s2 is (sc_fa1 fs).2
  have ws := sc_W hd i2 s2 i3 (sc_fa1 fs).2 ps
  have wt := sc_W hd i2 t2 i3 (sc_fa1 ft).2 pt
  have es := sc_en (i := s &&& t) (t := s) is (by omega)
  have et := sc_en (i := s &&& t) (t := t) it (by omega)
  rcases sc_row hd hx hD hT (s &&& t) with z | ⟨_, _, _, _, a, b, hab, hb, fa, fb, ia, ib, hz⟩
  · have := z s
    rw [ws] at this
    omega
  · have e0 := hG.2 (s &&& t)
    rw [sf_two hab hb hz] at e0
    have sab : s = a ∨ s = b := by
      apply Classical.byContradiction
      intro q
      have := hz s (fun y => q (Or.inl y)) (fun y => q (Or.inr y))
      rw [ws] at this
      omega
    have tab : t = a ∨ t = b := by
      apply Classical.byContradiction
      intro q
      have := hz t (fun y => q (Or.inl y)) (fun y => q (Or.inr y))
      rw [wt] at this
      omega
    have e1 : ed_en (s &&& t) s * ε s + ed_en (s &&& t) t * ε t = 0 := by
      rw [← ws, ← wt]
      rcases sab with q | q <;> rcases tab with q' | q'
      · exact absurd (q.trans q'.symm) hst
      · rw [← q, ← q'] at e0; exact e0
      · rw [← q, ← q'] at e0; omega
      · exact absurd (q.trans q'.symm) hst
    unfold sc_t
    rcases hG.1 s with a | a <;> rcases hG.1 t with b | b <;> rcases es with c | c <;> rcases et with e | e <;> rw [a, b, c, e] at e1 ⊢ <;> omega
theorem sc_G2 {x : Int64} {d : Nat} (hd : 1 ≤ d) (hx : re_C x) (hD : sc_D x d) (hT : sc_T x d) {ε : Nat → Int} (h1 : ∀ t, ε t = 1 ∨ ε t = -1) (h : ∀ s t, sc_A x d s t → ε s * ε t * sc_t s t = -1) : sf_G (ed_S (mk_b x) d) ε := by
  refine ⟨h1, fun i => ?_⟩
  rcases sc_row hd hx hD hT i with z | ⟨i1, i2, i3, i4, a, b, hab, hb, fa, fb, ia, ib, hz⟩
  · exact sf_z z ε
  · have pa := hD.2 a (by omega) fa
    have pb := hD.2 b hb fb
    have hlt := sc_lt a (by omega) b hb (by omega) (by omega)
    have iab : i &&& (a &&& b) = i := by rw [← Nat.and_assoc, ia, ib]
    have i64 : a &&& b < 64 := by have := st_and_le a b; omega
    have hge := re_pc i i2 (a &&& b) i64 iab
    have ei : i = a &&& b := sc_eq i i2 (a &&& b) i64 iab (by omega)
    have hA : sc_A x d a b := ⟨(sc_fa1 fa).1, by omega, (sc_fa1 fb).1, hb, fa, fb, by rw [← ei]; exact i4⟩
    have e := h a b hA
    unfold sc_t at e
    rw [← ei] at e
    rw [sf_two hab hb hz, sc_W hd i2 (by omega) i3 (sc_fa1 fa).2 pa, sc_W hd i2 hb i3 (sc_fa1 fb).2 pb]
    have ea := sc_en ia (by omega)
    have eb := sc_en ib (by omega)
    rcases h1 a with p | p <;> rcases h1 b with q | q <;> rcases ea with r | r <;> rcases eb with s | s <;> rw [p, q, r, s] at e ⊢ <;> omega
