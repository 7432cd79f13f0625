/-! the other masks of X -/
def xs_du (x : Int64) (t : Nat) : Bool := decide (1 ≤ t) && (decide (t < 63) && !mk_b x (63 ^^^ t))
theorem xs_63 : ∀ t, t < 64 → 63 ^^^ t < 64 := by decide
theorem xs_dualOf {post : Int64 → Prop} {x : Int64} (hp : ∀ r, (∀ t, t < 64 → mk_b r t = xs_du x t) → post r) : wpX_dualOf post x := by
  have l : ∀ d s acc, s + d = 63 → 1 ≤ s → mb_I (xs_du x) acc s → wX_dualOf_5 post x (d + 1) acc (nI s) := by
    intro d
    induction d with
    | zero =>
      intro s acc hs _ h
      have e : s = 63 := by omega
      subst e
      exact br_t (nI_le (a := 63) (b := 63) (by omega) (by decide)) (hp acc (mb_end (mb_skip h (by unfold xs_du; simp))))
    | succ d ih =>
      intro s acc hs h1 h
      have hs64 : s < 64 := by omega
      refine br_f (nI_ge (b := 63) (by omega) (by decide)) ?_
      rw [show (63 : Int32) ^^^ nI s = nI (63 ^^^ s) from st_xor 63 s]
      refine xs_isIn (xs_63 s hs64) (fun hb => ?_) (fun hb => ?_)
      · refine br_f (by decide) (fun y ey => ?_)
        rw [ey, nI_1]
        exact ih (s + 1) _ (by omega) (by omega) (mb_skip h (by unfold xs_du; simp [hb]))
      · refine br_t rfl (fun y ey z ez => ?_)
        rw [ey, ez, nI_1]
        exact ih (s + 1) _ (by omega) (by omega) (mb_add hs64 h (by unfold xs_du; simp [hb, h1]; omega))
  exact ⟨63, l 62 1 0 rfl (by omega) (mb_0 (by unfold xs_du; simp))⟩
def xs_li (x : Int64) (s t : Nat) : Bool := decide (1 ≤ t) && (decide (t &&& s = 0) && mk_b x (t ||| s))
theorem xs_linkOf {post : Int64 → Prop} {x : Int64} {w : Nat} (hw : w < 64) (hp : ∀ r, (∀ t, t < 64 → mk_b r t = xs_li x w t) → post r) : wpX_linkOf post x (nI w) := by
  have l : ∀ d s acc, s + d = 64 → 1 ≤ s → mb_I (xs_li x w) acc s → wX_linkOf_5 post x (nI w) (d + 1) acc (nI s) := by
    intro d
    induction d with
    | zero =>
      intro s acc hs _ h
      have e : s = 64 := by omega
      subst e
      exact br_t xs_gt64 (hp acc (mb_end h))
    | succ d ih =>
      intro s acc hs h1 h
      have hs64 : s < 64 := by omega
      refine br_f (xs_gt hs64) ?_
      rw [st_and, st_or]
      have hl := st_and_le s w
      by_cases e : s &&& w = 0
      · refine br_t (by rw [e]; rfl) (xs_isIn (st_or_lt hs64 hw) (fun hb => ?_) (fun hb => ?_))
        · refine br_f (by decide) (fun y ey z ez => ?_)
          rw [ey, ez, nI_1]
          exact ih (s + 1) _ (by omega) (by omega) (mb_add hs64 h (by unfold xs_li; simp [hb, h1, e]))
        · refine br_t rfl (fun y ey => ?_)
          rw [ey, nI_1]
          exact ih (s + 1) _ (by omega) (by omega) (mb_skip h (by unfold xs_li; simp [hb]))
      · refine br_f (fun z => e ((nI_eq (b := 0) (by omega) (by decide)).mp z)) (fun y ey => ?_)
        rw [ey, nI_1]
        exact ih (s + 1) _ (by omega) (by omega) (mb_skip h (by unfold xs_li; simp [e]))
  exact ⟨64, l 63 1 0 rfl (by omega) (mb_0 (by unfold xs_li; simp))⟩
/-- the sets of x that have p as a part -/
def xs_wh (x : Int64) (p t : Nat) : Bool := mk_b x t && decide (p &&& t = p)
theorem xs_le : ∀ p, p < 64 → ∀ t, t < 64 → p &&& t = p → p ≤ t := by decide +kernel
theorem xs_wholes {post : Int32 → Prop} {x : Int64} {p : Nat} (hw : p < 64) (hp : post (nI (cn_c (xs_wh x p) 64))) : wpX_wholes post x (nI p) := by
  have l : ∀ d s, s + d = 64 → p ≤ s → wX_wholes_5 post x (nI p) (d + 1) (nI (cn_c (xs_wh x p) s)) (nI s) := by
    intro d
    induction d with
    | zero =>
      intro s hs _
      have e : s = 64 := by omega
      subst e
      exact br_t xs_gt64 hp
    | succ d ih =>
      intro s hs h1
      have hs64 : s < 64 := by omega
      have no : xs_wh x p s = false → wX_wholes_5 post x (nI p) (d + 1) (nI (cn_c (xs_wh x p) s)) (nI s + 1) := by
        intro hf
        have := ih (s + 1) (by omega) (by omega)
        rw [cn_s, hf] at this
        rw [nI_1]
        exact this
      refine br_f (xs_gt hs64) (xs_isIn hs64 (fun hb => ?_) (fun hb => ?_))
      · refine br_f (by decide) (xs_isPart hw (fun hq => ?_) (fun hq => ?_))
        · refine br_f (by decide) (fun y ey z ez => ?_)
          have := ih (s + 1) (by omega) (by omega)
          rw [cn_s, show xs_wh x p s = true by unfold xs_wh; simp [hb, hq]] at this
          rw [ey, ez, nI_1, nI_1]
          exact this
        · refine br_t rfl (fun y ey => ?_)
          rw [ey]
          exact no (by unfold xs_wh; simp [hq])
      · refine br_t rfl (fun y ey => ?_)
        rw [ey]
        exact no (by unfold xs_wh; simp [hb])
  have z : cn_c (xs_wh x p) p = 0 := by
    have : cn_c (xs_wh x p) p ≤ cn_c (fun _ => false) p := cn_imp (fun i hi h => by
      unfold xs_wh at h
      rw [Bool.and_eq_true, decide_eq_true_iff] at h
      have := xs_le p hw i (by omega) h.2
      omega)
    have e : ∀ n, cn_c (fun _ => false) n = 0 := by
      intro n
      induction n with
      | zero => rfl
      | succ n ih => rw [cn_s, ih]; rfl
    rw [e] at this
    omega
  have := l (64 - p) p (by omega) (Nat.le_refl p)
  rw [z] at this
  exact ⟨64 - p + 1, this⟩
def xs_fa (x : Int64) (t : Nat) : Bool := decide (1 ≤ t) && (mk_b x t && decide (cn_c (xs_wh x t) 64 = 1))
theorem xs_facetsOf {post : Int64 → Prop} {x : Int64} (hp : ∀ r, (∀ t, t < 64 → mk_b r t = xs_fa x t) → post r) : wpX_facetsOf post x := by
  have l : ∀ d s acc, s + d = 64 → 1 ≤ s → mb_I (xs_fa x) acc s → wX_facetsOf_5 post x (d + 1) acc (nI s) := by
    intro d
    induction d with
    | zero =>
      intro s acc hs _ h
      have e : s = 64 := by omega
      subst e
      exact br_t xs_gt64 (hp acc (mb_end h))
    | succ d ih =>
      intro s acc hs h1 h
      have hs64 : s < 64 := by omega
      refine br_f (xs_gt hs64) (xs_isIn hs64 (fun hb => ?_) (fun hb => ?_))
      · refine br_f (by decide) (xs_wholes hs64 ?_)
        have hc := cn_le (xs_wh x s) 64
        by_cases e : cn_c (xs_wh x s) 64 = 1
        · refine br_t (by rw [e]; rfl) (fun y ey z ez => ?_)
          rw [ey, ez, nI_1]
          exact ih (s + 1) _ (by omega) (by omega) (mb_add hs64 h (by unfold xs_fa; rw [hb, e]; simp [h1]))
        · refine br_f (fun z => e ((nI_eq (b := 1) (by omega) (by decide)).mp z)) (fun y ey => ?_)
          rw [ey, nI_1]
          exact ih (s + 1) _ (by omega) (by omega) (mb_skip h (by unfold xs_fa; simp [e]))
      · refine br_t rfl (fun y ey => ?_)
        rw [ey, nI_1]
        exact ih (s + 1) _ (by omega) (by omega) (mb_skip h (by unfold xs_fa; simp [hb]))
  exact ⟨64, l 63 1 0 rfl (by omega) (mb_0 (by unfold xs_fa; simp))⟩
/-! registers -/
theorem xs_uLs {f : Nat → Int64} {k : Nat} {x : Int64} : vp_updL f k x k = x := by unfold vp_updL; rw [if_pos rfl]
theorem xs_uLn {f : Nat → Int64} {k j : Nat} {x : Int64} (h : j ≠ k) : vp_updL f k x j = f j := by unfold vp_updL; rw [if_neg h]
theorem xs_us {f : Nat → Int32} {k : Nat} {x : Int32} : upd f k x k = x := by unfold upd; rw [if_pos rfl]
theorem xs_un {f : Nat → Int32} {k j : Nat} {x : Int32} (h : j ≠ k) : upd f k x j = f j := by unfold upd; rw [if_neg h]
theorem xs_cl {j : Nat} (h : j < 1000) : (nI j).toNatClampNeg = j := nI_clamp (by omega)
/-- the parts of s -/
def xs_ap (s t : Nat) : Bool := decide (1 ≤ t) && decide (t &&& s = t)
theorem xs_add {post : Int32 → SX → Prop} {lev : Int32} {held : Nat → Int64} {place cells : Nat → Int32} {r w : Nat} (hr : r < 4) (hw : w < 64) (hp : ∀ held', (∀ q, q ≠ r → held' q = held q) → (∀ t, t < 64 → mk_b (held' r) t = (mk_b (held r) t || xs_ap w t)) → post (nI (cn_c (mk_b (held' r)) 64)) (lev, held', place, cells)) : ∃ n, wX_add_18 post (nI r) (nI w) lev n 1 held place cells := by
  have hin : vp_in (nI r) 4 := vp_in_nI hr (by omega)
  have l : ∀ d s held', s + d = w + 1 → 1 ≤ s → (∀ q, q ≠ r → held' q = held q) → (∀ t, t < 64 → mk_b (held' r) t = (mk_b (held r) t || (decide (t < s) && xs_ap w t))) → wX_add_18 post (nI r) (nI w) lev (d + 1) (nI s) held' place cells := by
    intro d
    induction d with
    | zero =>
      intro s held' hs _ h1 h2
      have e : s = w + 1 := by omega
      subst e
      refine br_t (nI_lt (by omega) (by omega)) ⟨hin, ?_⟩
      rw [xs_cl (by omega)]
      refine xs_size (hp held' h1 (fun t ht => ?_))
      rw [h2 t ht]
      by_cases e2 : t < w + 1
      · rw [decide_eq_true e2]; rfl
      · have : xs_ap w t = false := by
          unfold xs_ap
          have : ¬ t &&& w = t := fun z => by
            have := xs_le t ht w hw z
            omega
          simp [this]
        rw [this, Bool.and_false]
    | succ d ih =>
      intro s held' hs h0 h1 h2
      refine br_f (nI_nlt (by omega) (by omega)) (xs_isPart (by omega) (fun hq => ?_) (fun hq => ?_))
      · refine br_f (by decide) ⟨hin, hin, fun y ey z ez => ?_⟩
        rw [ey, ez, nI_1, xs_cl (by omega)]
        refine ih (s + 1) _ (by omega) (by omega) (fun q hq => by rw [xs_uLn hq, h1 q hq]) (fun t ht => ?_)
        rw [xs_uLs, mk_or, mk_sh1 s (by omega) t ht, h2 t ht]
        by_cases e : t = s
        · subst e
          rw [decide_eq_true (show t = t from rfl), decide_eq_true (show t < t + 1 by omega), show xs_ap w t = true by unfold xs_ap; simp [h0, hq], Bool.or_true]; simp
        · rw [decide_eq_false e, Bool.or_false]
          by_cases e2 : t < s
          · rw [decide_eq_true e2, decide_eq_true (show t < s + 1 by omega)]
          · rw [decide_eq_false e2, decide_eq_false (show ¬ t < s + 1 by omega)]
      · refine br_t rfl (fun y ey => ?_)
        rw [ey, nI_1]
        refine ih (s + 1) _ (by omega) (by omega) h1 (fun t ht => ?_)
        rw [h2 t ht]
        by_cases e : t = s
        · subst e
          rw [show xs_ap w t = false by unfold xs_ap; simp [hq], Bool.and_false, Bool.and_false]
        · by_cases e2 : t < s
          · rw [decide_eq_true e2, decide_eq_true (show t < s + 1 by omega)]
          · rw [decide_eq_false e2, decide_eq_false (show ¬ t < s + 1 by omega)]
  exact ⟨w + 1, l w 1 held (by omega) (by omega) (fun _ _ => rfl) (fun t _ => by
    by_cases e : t = 0
    · subst e
      rw [show xs_ap w 0 = false by unfold xs_ap; simp, Bool.and_false, Bool.or_false]
    · rw [decide_eq_false (show ¬ t < 1 by omega), Bool.false_and, Bool.or_false])⟩
theorem xs_take {post : Int32 → SX → Prop} {lev : Int32} {held : Nat → Int64} {place cells : Nat → Int32} {r w : Nat} (hr : r < 4) (hw : w < 64) (hp : ∀ held', (∀ q, q ≠ r → held' q = held q) → (∀ t, t < 64 → mk_b (held' r) t = (mk_b (held r) t && !decide (w &&& t = w))) → post (nI (cn_c (mk_b (held' r)) 64)) (lev, held', place, cells)) : ∃ n, wX_take_18 post (nI r) (nI w) lev n (nI w) held place cells := by
  have hin : vp_in (nI r) 4 := vp_in_nI hr (by omega)
  have l : ∀ d s held', s + d = 64 → w ≤ s → (∀ q, q ≠ r → held' q = held q) → (∀ t, t < 64 → mk_b (held' r) t = (mk_b (held r) t && !(decide (t < s) && decide (w &&& t = w)))) → wX_take_18 post (nI r) (nI w) lev (d + 1) (nI s) held' place cells := by
    intro d
    induction d with
    | zero =>
      intro s held' hs _ h1 h2
      have e : s = 64 := by omega
      subst e
      refine br_t xs_gt64 ⟨hin, ?_⟩
      rw [xs_cl (by omega)]
      refine xs_size (hp held' h1 (fun t ht => ?_))
      rw [h2 t ht, decide_eq_true ht, Bool.true_and]
    | succ d ih =>
      intro s held' hs h0 h1 h2
      refine br_f (xs_gt (by omega)) (xs_isPart hw (fun hq => ?_) (fun hq => ?_))
      · refine br_f (by decide) ⟨hin, hin, fun y ey z ez => ?_⟩
        rw [ey, ez, nI_1, xs_cl (by omega)]
        refine ih (s + 1) _ (by omega) (by omega) (fun q hq => by rw [xs_uLn hq, h1 q hq]) (fun t ht => ?_)
        rw [xs_uLs, mk_and, mk_not _ ht, mk_sh1 s (by omega) t ht, h2 t ht]
        by_cases e : t = s
        · subst e
          rw [decide_eq_true (show t = t from rfl), decide_eq_true (show t < t + 1 by omega), decide_eq_true hq]; simp
        · rw [decide_eq_false e]
          by_cases e2 : t < s
          · rw [decide_eq_true e2, decide_eq_true (show t < s + 1 by omega)]; simp
          · rw [decide_eq_false e2, decide_eq_false (show ¬ t < s + 1 by omega)]; simp
      · refine br_t rfl (fun y ey => ?_)
        rw [ey, nI_1]
        refine ih (s + 1) _ (by omega) (by omega) h1 (fun t ht => ?_)
        rw [h2 t ht]
        by_cases e : t = s
        · subst e
          rw [decide_eq_false hq, Bool.and_false, Bool.and_false]
        · by_cases e2 : t < s
          · rw [decide_eq_true e2, decide_eq_true (show t < s + 1 by omega)]
          · rw [decide_eq_false e2, decide_eq_false (show ¬ t < s + 1 by omega)]
  exact ⟨64 - w + 1, l (64 - w) w held (by omega) (by omega) (fun _ _ => rfl) (fun t ht => by
    by_cases e : w &&& t = w
    · have := xs_le w hw t ht e
      rw [decide_eq_false (show ¬ t < w by omega), Bool.false_and]; simp
    · rw [decide_eq_false e, Bool.and_false]; simp)⟩
