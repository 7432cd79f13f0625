/-! pieces -/
def pi_s (b : Nat → Bool) (m s : Nat) : Nat := if b s = true ∧ ¬ s &&& m = 0 then m ||| s else m
/-- after the sets 1 to n -/
def pi_p (b : Nat → Bool) (m : Nat) : Nat → Nat
  | 0 => m
  | n + 1 => pi_s b (pi_p b m n) (n + 1)
def pi_n (b : Nat → Bool) (m : Nat) : Nat → Nat
  | 0 => m
  | n + 1 => pi_p b (pi_n b m n) 63
theorem pi_p_lt {b : Nat → Bool} {m : Nat} (hm : m < 64) : ∀ n, n < 64 → pi_p b m n < 64 := by
  intro n
  induction n with
  | zero => intro _; exact hm
  | succ n ih =>
    intro hn
    have := ih (by omega)
    show pi_s b (pi_p b m n) (n + 1) < 64
    unfold pi_s
    split
    · exact st_or_lt this hn
    · exact this
theorem pi_n_lt {b : Nat → Bool} {m : Nat} (hm : m < 64) : ∀ n, pi_n b m n < 64 := by
  intro n
  induction n with
  | zero => exact hm
  | succ n ih => exact pi_p_lt ih 63 (by omega)
theorem xs_around {post : Int32 → Prop} {x : Int64} {m : Nat} (hm : m < 64) (hp : post (nI (pi_n (mk_b x) m 6))) : wpX_pieceAround post x (nI m) := by
  have l : ∀ d i, i + d = 6 → wX_pieceAround_5 post x (d + 1) (nI (pi_n (mk_b x) m i)) (nI i) := by
    intro d
    induction d with
    | zero =>
      intro i hi
      have e : i = 6 := by omega
      subst e
      exact br_t ys_ge6 hp
    | succ d ih =>
      intro i hi
      have hj := ih (i + 1) (by omega)
      have hm2 := pi_n_lt (b := mk_b x) hm i
      refine br_f (ys_lt6 (by omega)) ?_
      have l2 : ∀ f s, s + 1 + f = 64 → wX_pieceAround_15 post (wX_pieceAround_5 post x (d + 1)) x (nI i) (f + 1) (nI (pi_p (mk_b x) (pi_n (mk_b x) m i) s)) (nI (s + 1)) := by
        intro f
        induction f with
        | zero =>
          intro s hs
          have e : s = 63 := by omega
          subst e
          refine br_t xs_gt64 (fun y ey => ?_)
          rw [ey, nI_1]
          exact hj
        | succ f ih2 =>
          intro s hs
          have hn := ih2 (s + 1) (by omega)
          have hq := pi_p_lt (b := mk_b x) hm2 s (by omega)
          have hl := st_and_le (s + 1) (pi_p (mk_b x) (pi_n (mk_b x) m i) s)
          have stay : pi_p (mk_b x) (pi_n (mk_b x) m i) (s + 1) = pi_p (mk_b x) (pi_n (mk_b x) m i) s → wX_pieceAround_15 post (wX_pieceAround_5 post x (d + 1)) x (nI i) (f + 1) (nI (pi_p (mk_b x) (pi_n (mk_b x) m i) s)) (nI (s + 1 + 1)) := fun z => by rw [z] at hn; exact hn
          refine br_f (xs_gt (by omega)) (xs_isIn (by omega) (fun hb => ?_) (fun hb => ?_))
          · refine br_f (by decide) ?_
            rw [st_and]
            by_cases e : s + 1 &&& pi_p (mk_b x) (pi_n (mk_b x) m i) s = 0
            · refine br_t (by rw [e]; rfl) (fun y ey => ?_)
              rw [ey, nI_1]
              exact stay (if_neg (fun z => z.2 e))
            · refine br_f (fun z => e ((nI_eq (b := 0) (by omega) (by decide)).mp z)) (fun y ey z ez => ?_)
              rw [ey, ez, nI_1, st_or]
              rw [show pi_p (mk_b x) (pi_n (mk_b x) m i) (s + 1) = pi_p (mk_b x) (pi_n (mk_b x) m i) s ||| (s + 1) from if_pos ⟨hb, e⟩] at hn
              exact hn
          · refine br_t rfl (fun y ey => ?_)
            rw [ey, nI_1]
            exact stay (if_neg (fun z => by rw [hb] at z; exact absurd z.1 (by decide)))
      exact ⟨64, l2 63 0 rfl⟩
  exact ⟨7, l 6 0 rfl⟩
theorem ys_reach {post : Int32 → Prop} {rw cl : Int32} {has now pl si : Nat → Int32} {ta : Nat → Int64} {r : Nat} {b : Nat → Bool} {m : Nat} (hr : r < 4) (h : ys_H has r b) (hm : m < 64) (hp : post (nI (pi_n b m 6))) : wpY_reach post (rw, cl, has, now, pl, ta, si) (nI r) (nI m) := by
  have l : ∀ d i, i + d = 6 → wY_reach_5 post (nI r) rw cl has now pl ta si (d + 1) (nI (pi_n b m i)) (nI i) := by
    intro d
    induction d with
    | zero =>
      intro i hi
      have e : i = 6 := by omega
      subst e
      exact br_t ys_ge6 hp
    | succ d ih =>
      intro i hi
      have hj := ih (i + 1) (by omega)
      have hm2 := pi_n_lt (b := b) hm i
      refine br_f (ys_lt6 (by omega)) ?_
      have l2 : ∀ f s, s + 1 + f = 64 → wY_reach_15 post (wY_reach_5 post (nI r) rw cl has now pl ta si (d + 1)) (nI r) (nI i) rw cl has now pl ta si (f + 1) (nI (pi_p b (pi_n b m i) s)) (nI (s + 1)) := by
        intro f
        induction f with
        | zero =>
          intro s hs
          have e : s = 63 := by omega
          subst e
          refine br_t ys_ge64 (fun y ey => ?_)
          rw [ey, nI_1]
          exact hj
        | succ f ih2 =>
          intro s hs
          have hn := ih2 (s + 1) (by omega)
          have hq := pi_p_lt (b := b) hm2 s (by omega)
          have hl := st_and_le (s + 1) (pi_p b (pi_n b m i) s)
          have stay : pi_p b (pi_n b m i) (s + 1) = pi_p b (pi_n b m i) s → wY_reach_15 post (wY_reach_5 post (nI r) rw cl has now pl ta si (d + 1)) (nI r) (nI i) rw cl has now pl ta si (f + 1) (nI (pi_p b (pi_n b m i) s)) (nI (s + 1 + 1)) := fun z => by rw [z] at hn; exact hn
          refine br_f (ys_lt64 (by omega)) (ys_ask hr (by omega) (by omega) h (fun hb => ?_) (fun hb => ?_))
          · intro y ey
            rw [ey, nI_1]
            exact stay (if_neg (fun z => by rw [hb] at z; exact absurd z.1 (by decide)))
          · rw [st_and]
            by_cases e : s + 1 &&& pi_p b (pi_n b m i) s = 0
            · refine br_t (by rw [e]; rfl) (fun y ey => ?_)
              rw [ey, nI_1]
              exact stay (if_neg (fun z => z.2 e))
            · refine br_f (fun z => e ((nI_eq (b := 0) (by omega) (by decide)).mp z)) (fun y ey z ez => ?_)
              rw [ey, ez, nI_1, st_or]
              rw [show pi_p b (pi_n b m i) (s + 1) = pi_p b (pi_n b m i) s ||| (s + 1) from if_pos ⟨hb, e⟩] at hn
              exact hn
      exact ⟨64, l2 63 0 rfl⟩
  exact ⟨7, l 6 0 rfl⟩
theorem pi_v : ∀ v, v < 6 → (1 : Int32) <<< (nI v &&& 31) = nI (2 ^ v) ∧ 2 ^ v < 64 ∧ 1 ≤ 2 ^ v := by decide +kernel
theorem pi_x : ∀ m, m < 64 → ∀ v, v < 6 → ((nI m &&& nI (2 ^ v)) = 0 ↔ m.testBit v = false) := by decide +kernel
theorem pi_y : ∀ m, m < 64 → ∀ v, v < 6 → (((nI m >>> (nI v &&& 31)) &&& 1) = 1 ↔ m.testBit v = true) := by decide +kernel
theorem pi_not : ∀ l, l < 64 → ∀ p, p < 64 → nI l &&& (nI p ^^^ (-1)) = nI (l &&& (63 ^^^ p)) := by decide +kernel
theorem pi_nb : ∀ p, p < 64 → ∀ i, i < 6 → (63 ^^^ p).testBit i = !p.testBit i := by decide +kernel
theorem pi_sb : ∀ v, v < 6 → ∀ i, i < 6 → (2 ^ v).testBit i = decide (i = v) := by decide +kernel
theorem pi_both {lev : Int32} {held : Nat → Int64} {place cells : Nat → Int32} {rw cl : Int32} {has now pl si : Nat → Int32} {ta : Nat → Int64} {r : Nat} (hr : r < 4) (h : ys_H has r (mk_b (held r))) : ∀ d v c m l, v + d = 6 → m < 64 → l < 64 → (∀ i, i < 6 → l.testBit i = (mk_b (held r) (2 ^ i) && !m.testBit i)) → ∃ ans : Int32, (∀ post : Int32 → Prop, post ans → wX_pieces_16 post (nI r) lev held place cells (d + 1) (nI c) (nI m) (nI v)) ∧ (∀ post : Int32 → Prop, post ans → wY_pieces_53 post (nI r) rw cl has now pl ta si (d + 1) (nI l) (nI c) (nI v)) := by
  intro d
  induction d with
  | zero =>
    intro v c m l hv _ _ _
    have e : v = 6 := by omega
    subst e
    exact ⟨nI c, fun post hp => br_t ys_ge6 hp, fun post hp => br_t ys_ge6 hp⟩
  | succ d ih =>
    intro v c m l hv hm hl hI
    have hv6 : v < 6 := by omega
    obtain ⟨e1, e2, e3⟩ := pi_v v hv6
    have q := hI v hv6
    cases hb : mk_b (held r) (2 ^ v)
    · obtain ⟨ans, hX, hY⟩ := ih (v + 1) c m l (by omega) hm hl hI
      refine ⟨ans, fun post hp => br_f (ys_lt6 hv6) (fun y ey => ⟨vp_in_nI hr (by decide), ?_⟩), fun post hp => br_f (ys_lt6 hv6) (br_f (fun z => ?_) (fun y ey => ?_))⟩
      · rw [ey, e1, xs_cl (by omega)]
        refine xs_isIn e2 (fun z => by rw [hb] at z; exact absurd z (by decide)) (fun _ => br_t rfl (fun y ey => ?_))
        rw [ey, nI_1]; exact hX post hp
      · rw [(pi_y l hl v hv6).mp z, hb] at q
        exact absurd q (by simp)
      · rw [ey, nI_1]; exact hY post hp
    · cases ht : m.testBit v
      · -- a new piece
        have hp6 := pi_n_lt (b := mk_b (held r)) e2 6
        obtain ⟨ans, hX, hY⟩ := ih (v + 1) (c + 1) (m ||| pi_n (mk_b (held r)) (2 ^ v) 6) (l &&& (63 ^^^ pi_n (mk_b (held r)) (2 ^ v) 6)) (by omega) (st_or_lt hm hp6) (by have := st_and_le l (63 ^^^ pi_n (mk_b (held r)) (2 ^ v) 6); omega) (fun i hi => by
          rw [Nat.testBit_and, Nat.testBit_or, pi_nb _ hp6 i hi, hI i hi]
          cases mk_b (held r) (2 ^ i) <;> cases m.testBit i <;> cases (pi_n (mk_b (held r)) (2 ^ v) 6).testBit i <;> rfl)
        refine ⟨ans, fun post hp => br_f (ys_lt6 hv6) (fun y ey => ⟨vp_in_nI hr (by decide), ?_⟩), fun post hp => br_f (ys_lt6 hv6) (br_t ?_ ?_)⟩
        · rw [ey, e1, xs_cl (by omega)]
          refine xs_isIn e2 (fun _ => br_f (by decide) (br_t ((pi_x m hm v hv6).mpr ht) (fun y ey => ⟨vp_in_nI hr (by decide), ?_⟩))) (fun z => by rw [hb] at z; exact absurd z (by decide))
          refine xs_around e2 (fun y2 ey2 y3 ey3 => ?_)
          rw [ey, ey2, ey3, nI_1, nI_1, st_or]
          exact hX post hp
        · rw [hb, ht] at q
          exact (pi_y l hl v hv6).mpr q
        · rw [e1]
          refine ys_reach hr h e2 (fun y ey z ez w ew => ?_)
          rw [ey, ez, ew, nI_1, nI_1, pi_not l hl _ hp6]
          exact hY post hp
      · obtain ⟨ans, hX, hY⟩ := ih (v + 1) c m l (by omega) hm hl hI
        refine ⟨ans, fun post hp => br_f (ys_lt6 hv6) (fun y ey => ⟨vp_in_nI hr (by decide), ?_⟩), fun post hp => br_f (ys_lt6 hv6) (br_f (fun z => ?_) (fun y ey => ?_))⟩
        · rw [ey, e1, xs_cl (by omega)]
          refine xs_isIn e2 (fun _ => br_f (by decide) (br_f (fun z => ?_) (fun y ey => ?_))) (fun z => by rw [hb] at z; exact absurd z (by decide))
          · rw [(pi_x m hm v hv6).mp z] at ht; exact absurd ht (by decide)
          · rw [ey, nI_1]; exact hX post hp
        · rw [(pi_y l hl v hv6).mp z, hb, ht] at q
          exact absurd q (by decide)
        · rw [ey, nI_1]; exact hY post hp
theorem ys_left {post : Int32 → Prop} {rw cl : Int32} {has now pl si : Nat → Int32} {ta : Nat → Int64} {r : Nat} {b : Nat → Bool} (hr : r < 4) (h : ys_H has r b) (hp : ∀ l, l < 64 → (∀ i, i < 6 → l.testBit i = b (2 ^ i)) → ∃ n, wY_pieces_53 post (nI r) rw cl has now pl ta si n (nI l) 0 0) : ∃ n, wY_pieces_14 post (nI r) rw cl has now pl ta si n 0 0 := by
  have L : ∀ d v l, v + d = 6 → l < 64 → (∀ i, i < 6 → l.testBit i = (decide (i < v) && b (2 ^ i))) → wY_pieces_14 post (nI r) rw cl has now pl ta si (d + 1) (nI l) (nI v) := by
    intro d
    induction d with
    | zero =>
      intro v l hv hl hI
      have e : v = 6 := by omega
      subst e
      exact br_t ys_ge6 (hp l hl (fun i hi => by rw [hI i hi, decide_eq_true hi]; rfl))
    | succ d ih =>
      intro v l hv hl hI
      have hv6 : v < 6 := by omega
      obtain ⟨e1, e2, e3⟩ := pi_v v hv6
      refine br_f (ys_lt6 hv6) ?_
      rw [e1]
      refine ys_ask hr e3 e2 h (fun hb => ?_) (fun hb => ?_)
      · intro y ey
        rw [ey, nI_1]
        refine ih (v + 1) l (by omega) hl (fun i hi => ?_)
        rw [hI i hi]
        by_cases e : i = v
        · subst e; rw [hb, Bool.and_false, Bool.and_false]
        · by_cases e2 : i < v
          · rw [decide_eq_true e2, decide_eq_true (show i < v + 1 by omega)]
          · rw [decide_eq_false e2, decide_eq_false (show ¬ i < v + 1 by omega)]
      · intro y ey z ez
        rw [ey, ez, nI_1, st_or]
        refine ih (v + 1) _ (by omega) (st_or_lt hl e2) (fun i hi => ?_)
        rw [Nat.testBit_or, hI i hi, pi_sb v hv6 i hi]
        by_cases e : i = v
        · subst e; rw [hb, decide_eq_true (show i < i + 1 by omega)]; simp
        · by_cases e2 : i < v
          · rw [decide_eq_true e2, decide_eq_true (show i < v + 1 by omega), decide_eq_false e]; simp
          · rw [decide_eq_false e2, decide_eq_false (show ¬ i < v + 1 by omega), decide_eq_false e]; simp
  exact ⟨7, L 6 0 0 rfl (by omega) (fun i hi => by rw [Nat.zero_testBit, decide_eq_false (show ¬ i < 0 by omega)]; rfl)⟩
theorem i_vc_pieces {k : Nat} {u : SX} {v : SY} (I : i_Rel k u v) (hk : k + 5 ≤ 2560) (v1 : Int32) : wpX_pieces (fun r => wpY_pieces (fun r' => r' = r ∧ i_Rel (k + 5) u v) v v1) u v1 := by
  obtain ⟨lev, held, place, cells⟩ := u
  obtain ⟨rw, cl, has, now, pl, ta, si⟩ := v
  have I : re_R lev held place has := I
  unfold wpX_pieces wpY_pieces
  dsimp only
  rcases rg_cases v1 with hb | ⟨r, hr, rfl⟩
  · exact xs_reg_bad hb (br_t rfl (ys_reg_bad hb (br_t rfl ⟨rfl, I⟩)))
  have J := I.2.2 r hr
  have key : ∃ ans : Int32, (∀ post : Int32 → Prop, post ans → ∃ n, wX_pieces_16 post (nI r) lev held place cells n 0 0 0) ∧ (∀ post : Int32 → Prop, post ans → ∃ n, wY_pieces_14 post (nI r) rw cl has now pl ta si n 0 0) := by
    have hex : ∃ l, l < 64 ∧ ∀ i, i < 6 → l.testBit i = mk_b (held r) (2 ^ i) := by
      have := ys_left (post := fun _ => True) (rw := rw) (cl := cl) (now := now) (pl := pl) (ta := ta) (si := si) hr J.2
      have L : ∀ v, v ≤ 6 → ∃ l, l < 64 ∧ ∀ i, i < 6 → l.testBit i = (decide (i < v) && mk_b (held r) (2 ^ i)) := by
        intro v
        induction v with
        | zero => intro _; exact ⟨0, by omega, fun i hi => by rw [Nat.zero_testBit, decide_eq_false (show ¬ i < 0 by omega)]; rfl⟩
        | succ v ih =>
          intro hv
          obtain ⟨l, hl, hI⟩ := ih (by omega)
          obtain ⟨e1, e2, e3⟩ := pi_v v (by omega)
          cases hb : mk_b (held r) (2 ^ v)
          · refine ⟨l, hl, fun i hi => ?_⟩
            rw [hI i hi]
            by_cases e : i = v
            · subst e; rw [hb, Bool.and_false, Bool.and_false]
            · by_cases e2 : i < v
              · rw [decide_eq_true e2, decide_eq_true (show i < v + 1 by omega)]
              · rw [decide_eq_false e2, decide_eq_false (show ¬ i < v + 1 by omega)]
          · refine ⟨l ||| 2 ^ v, st_or_lt hl e2, fun i hi => ?_⟩
            rw [Nat.testBit_or, hI i hi, pi_sb v (by omega) i hi]
            by_cases e : i = v
            · subst e; rw [hb, decide_eq_true (show i < i + 1 by omega)]; simp
            · by_cases e2 : i < v
              · rw [decide_eq_true e2, decide_eq_true (show i < v + 1 by omega), decide_eq_false e]; simp
              · rw [decide_eq_false e2, decide_eq_false (show ¬ i < v + 1 by omega), decide_eq_false e]; simp
      obtain ⟨l, hl, hI⟩ := L 6 (Nat.le_refl 6)
      exact ⟨l, hl, fun i hi => by rw [hI i hi, decide_eq_true hi]; rfl⟩
    obtain ⟨l, hl, hI⟩ := hex
    obtain ⟨ans, hX, hY⟩ := pi_both (lev := lev) (held := held) (place := place) (cells := cells) (rw := rw) (cl := cl) (now := now) (pl := pl) (ta := ta) (si := si) hr J.2 6 0 0 0 l rfl (by omega) hl (fun i hi => by rw [hI i hi, Nat.zero_testBit]; simp)
    refine ⟨ans, fun post hp => ⟨7, hX post hp⟩, fun post hp => ys_left hr J.2 (fun l' hl' hI' => ?_)⟩
    have e : l' = l := by
      apply Nat.eq_of_testBit_eq
      intro i
      by_cases hi : i < 6
      · rw [hI i hi, hI' i hi]
      · have p : 2 ^ 6 ≤ 2 ^ i := Nat.pow_le_pow_right (by decide) (by omega)
        rw [Nat.testBit_lt_two_pow (show l' < 2 ^ i by omega), Nat.testBit_lt_two_pow (show l < 2 ^ i by omega)]
    rw [e]
    exact ⟨7, hY post hp⟩
  obtain ⟨ans, hX, hY⟩ := key
  exact xs_reg hr (br_f (by decide) (hX _ (ys_reg hr (br_f (by decide) (hY _ ⟨rfl, I⟩)))))
