/-! canTurn -/
def cu_D (x : Int64) (d : Nat) (si : Nat → Int32) : Prop := ∀ ε, sf_G (ed_S (mk_b x) d) ε → ∀ s t, sc_A x d s t → si s ≠ 0 → si t ≠ 0 → (si s).toInt * ε s = (si t).toInt * ε t
theorem cu_63 (x : Int64) (si : Nat → Int32) : cn_c (gv_n x si) 64 ≤ 63 := by
  refine Nat.le_trans (cn_imp (g := fun t => decide (1 ≤ t)) (fun i _ h => ?_)) (show cn_c (fun t => decide (1 ≤ t)) 64 ≤ 63 by decide)
  unfold gv_n at h
  rw [Bool.and_eq_true] at h
  rw [decide_eq_true_iff]
  exact (sc_fa1 h.1).1
theorem cu_sym (s t : Nat) : sc_t t s = sc_t s t := by
  unfold sc_t
  rw [Nat.and_comm t s, Int.mul_comm]
theorem cu_t1 {x : Int64} {d s t : Nat} (hD : sc_D x d) (hA : sc_A x d s t) : (sc_t s t = 1 ∨ sc_t s t = -1) ∧ (tu_p s t 6).toInt = sc_t s t := by
  obtain ⟨s1, s2, t1, t2, fs, ft, hp⟩ := hA
  have ps := hD.2 s s2 fs
  have pt := hD.2 t t2 ft
  refine ⟨?_, tu_ok s s2 t t2 (by omega) (by omega)⟩
  have is : (s &&& t) &&& s = s &&& t := by rw [Nat.and_comm s t, Nat.and_assoc, Nat.and_self]
  have it : (s &&& t) &&& t = s &&& t := by rw [Nat.and_assoc, Nat.and_self]
  unfold sc_t
  rcases sc_en (i := s &&& t) (t := s) is (by omega) with a | a <;> rcases sc_en (i := s &&& t) (t := t) it (by omega) with b | b <;> rw [a, b] <;> decide
theorem cu_val {x : Int64} {d s t : Nat} {si : Nat → Int32} (hD : sc_D x d) (h3 : gv_3 si) (hA : sc_A x d s t) : (si s * si t * tu_p s t 6).toInt = (si s).toInt * (si t).toInt * sc_t s t := by
  obtain ⟨h1, h2⟩ := cu_t1 hD hA
  have a := h3 s hA.1 hA.2.1
  have b := h3 t hA.2.2.1 hA.2.2.2.1
  have e1 : (si s * si t).toInt = (si s).toInt * (si t).toInt := by
    apply nu_mul
    · rcases a with p | p | p <;> rcases b with q | q | q <;> rw [p, q] <;> decide
    · rcases a with p | p | p <;> rcases b with q | q | q <;> rw [p, q] <;> decide
  rw [nu_mul, e1, h2]
  · rw [e1, h2]
    rcases a with p | p | p <;> rcases b with q | q | q <;> rcases h1 with r | r <;> rw [p, q, r] <;> decide
  · rw [e1, h2]
    rcases a with p | p | p <;> rcases b with q | q | q <;> rcases h1 with r | r <;> rw [p, q, r] <;> decide
theorem cu_m1 : (-1 : Int32).toInt = -1 := by decide
theorem cu_can {post : Int32 → SY → Prop} {rw cl : Int32} {has now pl si : Nat → Int32} {ta : Nat → Int64} {x : Int64} {r d : Nat} (hr : r < 4) (h : ys_H has r (mk_b x)) (hd : 1 ≤ d) (hd6 : d < 6) (hx : re_C x) (hD : sc_D x d) (hT : sc_T x d) (hp1 : (∃ ε, sf_G (ed_S (mk_b x) d) ε) → ∀ now' si', post 1 (rw, cl, has, now', pl, ta, si')) (hp0 : (¬ ∃ ε, sf_G (ed_S (mk_b x) d) ε) → ∀ now' si', post 0 (rw, cl, has, now', pl, ta, si')) : wpY_canTurn post (rw, cl, has, now, pl, ta, si) (nI r) (nI d) := by
  -- the last look
  have l3 : ∀ now' si', yt_N now' (xs_fa x) → gv_3 si' → cu_D x d si' → (∀ t, 1 ≤ t → t < 64 → xs_fa x t = true → si' t ≠ 0) → ∃ n, wY_canTurn_106 post (nI d) rw cl has now' pl ta si' n 1 := by
    intro now' si' hN h3 hC hall
    have good : (∀ s t, sc_A x d s t → t < s → si' s * si' t * tu_p s t 6 = -1) → ∃ ε, sf_G (ed_S (mk_b x) d) ε := by
      intro ok
      refine ⟨fun t => if (si' t).toInt = -1 then -1 else 1, sc_G2 hd hx hD hT (fun t => ?_) (fun s t hA => ?_)⟩
      · show (if (si' t).toInt = -1 then (-1 : Int) else 1) = 1 ∨ (if (si' t).toInt = -1 then (-1 : Int) else 1) = -1
        split
        · exact Or.inr rfl
        · exact Or.inl rfl
      · have key : (si' s).toInt * (si' t).toInt * sc_t s t = -1 := by
          rcases Nat.lt_trichotomy s t with z | z | z
          · have := ok t s (sc_Asym hA) z
            have e := cu_val hD h3 (sc_Asym hA)
            rw [this, cu_m1, cu_sym] at e
            rw [Int.mul_comm (si' s).toInt]
            exact e.symm
          · exfalso
            have a := hD.2 s hA.2.1 hA.2.2.2.2.1
            have b := hA.2.2.2.2.2.2
            rw [← z, Nat.and_self] at b
            omega
          · have := ok s t hA z
            have e := cu_val hD h3 hA
            rw [this, cu_m1] at e
            exact e.symm
        have a := h3 s hA.1 hA.2.1
        have b := h3 t hA.2.2.1 hA.2.2.2.1
        have pick : ∀ z : Int, (z = 0 ∨ z = 1 ∨ z = -1) → z ≠ 0 → (if z = -1 then (-1 : Int) else 1) = z := by
          intro z hz nz
          by_cases q : z = -1
          · rw [if_pos q, q]
          · rw [if_neg q]; omega
        have na : (si' s).toInt ≠ 0 := fun z => by rw [z, Int.zero_mul, Int.zero_mul] at key; omega
        have nb : (si' t).toInt ≠ 0 := fun z => by rw [z, Int.mul_zero, Int.zero_mul] at key; omega
        show (if (si' s).toInt = -1 then (-1 : Int) else 1) * (if (si' t).toInt = -1 then (-1 : Int) else 1) * sc_t s t = -1
        rw [pick _ a na, pick _ b nb]
        exact key
    have bad : ∀ s t, sc_A x d s t → ¬ si' s * si' t * tu_p s t 6 = -1 → ¬ ∃ ε, sf_G (ed_S (mk_b x) d) ε := by
      rintro s t hA ne ⟨ε, hG⟩
      apply ne
      apply Int32.toInt_inj.mp
      rw [cu_val hD h3 hA, cu_m1]
      have g := sc_G1 hd hx hD hT hG hA
      have n1 := hall s hA.1 hA.2.1 hA.2.2.2.2.1
      have n2 := hall t hA.2.2.1 hA.2.2.2.1 hA.2.2.2.2.2.1
      have e := hC ε hG s t hA n1 n2
      have z1 : (si' s).toInt ≠ 0 := fun z => n1 (Int32.toInt_inj.mp (by rw [z, xd_z0]))
      have z2 : (si' t).toInt ≠ 0 := fun z => n2 (Int32.toInt_inj.mp (by rw [z, xd_z0]))
      have a := h3 s hA.1 hA.2.1
      have b := h3 t hA.2.2.1 hA.2.2.2.1
      have T := (cu_t1 hD hA).1
      rcases a with p | p | p
      · exact absurd p z1
      · rcases b with q | q | q
        · exact absurd q z2
        · rcases hG.1 s with u | u <;> rcases hG.1 t with v | v <;> rcases T with w | w <;> rw [u, v, w] at g <;> rw [p, q, u, v] at e <;> rw [p, q, w] <;> omega
        · rcases hG.1 s with u | u <;> rcases hG.1 t with v | v <;> rcases T with w | w <;> rw [u, v, w] at g <;> rw [p, q, u, v] at e <;> rw [p, q, w] <;> omega
      · rcases b with q | q | q
        · exact absurd q z2
        · rcases hG.1 s with u | u <;> rcases hG.1 t with v | v <;> rcases T with w | w <;> rw [u, v, w] at g <;> rw [p, q, u, v] at e <;> rw [p, q, w] <;> omega
        · rcases hG.1 s with u | u <;> rcases hG.1 t with v | v <;> rcases T with w | w <;> rw [u, v, w] at g <;> rw [p, q, u, v] at e <;> rw [p, q, w] <;> omega
    have l : ∀ m s, s + m = 64 → 1 ≤ s → (∀ a b, sc_A x d a b → b < a → a < s → si' a * si' b * tu_p a b 6 = -1) → wY_canTurn_106 post (nI d) rw cl has now' pl ta si' (m + 1) (nI s) := by
      intro m
      induction m with
      | zero =>
        intro s hs _ ok
        have e : s = 64 := by omega
        subst e
        exact br_t ys_ge64 (hp1 (good (fun a b hA hba => ok a b hA hba hA.2.1)) now' si')
      | succ m ih =>
        intro s hs s1 ok
        have s64 : s < 64 := by omega
        refine br_f (ys_lt64 s64) ?_
        have l2 : ∀ m2 t, t + m2 = s → 1 ≤ t → (∀ b, sc_A x d s b → b < t → si' s * si' b * tu_p s b 6 = -1) → wY_canTurn_115 post (wY_canTurn_106 post (nI d) rw cl has now' pl ta si' (m + 1)) (nI d) (nI s) rw cl has now' pl ta si' (m2 + 1) (nI t) := by
          intro m2
          induction m2 with
          | zero =>
            intro t ht _ ok2
            have e : t = s := by omega
            subst e
            refine br_t (nI_le (Nat.le_refl t) (by omega)) (fun y ey => ?_)
            rw [ey, nI_1]
            refine ih (t + 1) (by omega) (by omega) (fun a b hA hba has => ?_)
            by_cases e : a = t
            · rw [e] at hA hba ⊢
              exact ok2 b hA hba
            · exact ok a b hA hba (by omega)
          | succ m2 ih2 =>
            intro t ht t1 ok2
            have t64 : t < 64 := by omega
            have next : (sc_A x d s t → si' s * si' t * tu_p s t 6 = -1) → wY_canTurn_115 post (wY_canTurn_106 post (nI d) rw cl has now' pl ta si' (m + 1)) (nI d) (nI s) rw cl has now' pl ta si' (m2 + 1) (nI (t + 1)) := fun z => ih2 (t + 1) (by omega) (by omega) (fun b hA hb => by
              by_cases e : b = t
              · rw [e] at hA ⊢; exact z hA
              · exact ok2 b hA (by omega))
            refine br_f (nI_ge (by omega) (by omega)) (yt_ask hN s1 s64 (fun hS => ?_) (fun hS => yt_ask hN t1 t64 (fun hS2 => ?_) (fun hS2 => ?_)))
            · intro y ey
              rw [ey, nI_1]
              exact next (fun hA => by have := hA.2.2.2.2.1; rw [hS] at this; exact absurd this (by decide))
            · intro y ey
              rw [ey, nI_1]
              exact next (fun hA => by have := hA.2.2.2.2.2.1; rw [hS2] at this; exact absurd this (by decide))
            · rw [st_and]
              have i64 : s &&& t < 64 := by have := st_and_le s t; omega
              have hpc := ed_pc_le (s &&& t)
              refine ys_degree i64 ?_
              by_cases e : ed_pc (s &&& t) = d
              · have hA : sc_A x d s t := ⟨s1, s64, t1, t64, hS, hS2, e⟩
                refine br_t ((ys_dk1 _ (by omega) d (by omega)).mpr e) ⟨vp_in_nI s64 (by decide), vp_in_nI t64 (by decide), tu_turn s64 t64 ?_⟩
                rw [xs_cl (show s < 1000 by omega), xs_cl (show t < 1000 by omega)]
                by_cases q : si' s * si' t * tu_p s t 6 = -1
                · refine br_t q (fun y ey => ?_)
                  rw [ey, nI_1]
                  exact next (fun _ => q)
                · exact br_f q (hp0 (bad s t hA q) now' si')
              · refine br_f (fun z => e ((ys_dk1 _ (by omega) d (by omega)).mp z)) (fun y ey => ?_)
                rw [ey, nI_1]
                exact next (fun hA => absurd hA.2.2.2.2.2.2 e)
        exact ⟨s - 1 + 1, l2 (s - 1) 1 (by omega) (by omega) (fun b hA hb => by have := hA.2.2.1; omega)⟩
    exact ⟨64, l 63 1 rfl (by omega) (fun a b hA hba ha => by have := hA.1; omega)⟩
  -- the families
  have l2 : ∀ now', yt_N now' (xs_fa x) → ∀ m s si', s + m = 64 → 1 ≤ s → gv_3 si' → gv_C x d si' → cu_D x d si' → (∀ t, 1 ≤ t → t < s → xs_fa x t = true → si' t ≠ 0) → wY_canTurn_35 post (nI r) (nI d) (m + 1) (nI s) rw cl has now' pl ta si' := by
    intro now' hN m
    induction m with
    | zero =>
      intro s si' hs _ h3 hC hDD hall
      have e : s = 64 := by omega
      subst e
      exact br_t ys_ge64 (l3 now' si' hN h3 hDD hall)
    | succ m ih =>
      intro s si' hs s1 h3 hC hDD hall
      have s64 : s < 64 := by omega
      refine br_f (ys_lt64 s64) (yt_ask hN s1 s64 (fun hS => ?_) (fun hS => ⟨vp_in_nI s64 (by decide), ?_⟩))
      · intro y ey
        rw [ey, nI_1]
        refine ih (s + 1) si' (by omega) (by omega) h3 hC hDD (fun t t1 t2 hf => ?_)
        by_cases e : t = s
        · rw [e, hS] at hf; exact absurd hf (by decide)
        · exact hall t t1 (by omega) hf
      · rw [xs_cl (show s < 1000 by omega)]
        by_cases z : si' s = 0
        · refine br_t z ⟨vp_in_nI s64 (by decide), fun y ey => ?_⟩
          have I1 : gv_I x d si' y s := by
            rw [ey]
            refine ⟨fun t t1 t2 => ?_, fun t ht => ?_, ?_, fun ε hG t t1 t2 t3 t4 => ?_⟩
            · by_cases e : t = s
              · rw [e, xs_us]; exact Or.inr (Or.inl (by decide))
              · rw [xs_un e]; exact h3 t t1 t2
            · rw [xs_un (fun e => ht (by rw [e]; exact z))]
            · rw [xs_us]; decide
            · by_cases e : t = s
              · rw [e, xs_us, show (1 : Int32).toInt = 1 from by decide, Int.one_mul]
              · rw [xs_un e] at t4; exact absurd t3 t4
          have rounds : ∀ q k some w, k + q = 64 → gv_I x d si' w s → ((some = 1 ∧ cn_c (gv_n x w) 64 + k ≤ 63) ∨ (some = 0 ∧ gv_C x d w)) → wY_canTurn_72 post (wY_canTurn_35 post (nI r) (nI d) (m + 1)) (nI r) (nI d) (nI s) (q + 1) some (nI k) rw cl has now' pl ta w := by
            have fin : ∀ w, gv_I x d si' w s → gv_C x d w → wY_canTurn_35 post (nI r) (nI d) (m + 1) (nI (s + 1)) rw cl has now' pl ta w := by
              intro w Iw Cw
              refine ih (s + 1) w (by omega) (by omega) Iw.1 Cw (fun ε hG a b hA na nb => ?_) (fun t t1 t2 hf => ?_)
              · by_cases za : si' a = 0
                · have zb : si' b = 0 := Classical.byContradiction fun q => hC b a (sc_Asym hA) q za
                  rw [Iw.2.2.2 ε hG a hA.1 hA.2.1 za na, Iw.2.2.2 ε hG b hA.2.2.1 hA.2.2.2.1 zb nb]
                · have zb := hC a b hA za
                  rw [Iw.2.1 a za, Iw.2.1 b zb]
                  exact hDD ε hG a b hA za zb
              · by_cases e : t = s
                · rw [e]; exact Iw.2.2.1
                · have := hall t t1 (by omega) hf
                  rw [Iw.2.1 t this]; exact this
            intro q
            induction q with
            | zero =>
              intro k some w hk Iw hS
              have e : k = 64 := by omega
              subst e
              refine br_t ys_ge64 (fun y ey => ?_)
              rw [ey, nI_1]
              rcases hS with ⟨_, b⟩ | ⟨_, b⟩
              · omega
              · exact fin w Iw b
            | succ q ihq =>
              intro k some w hk Iw hS
              refine br_f (ys_lt64 (by omega)) ?_
              rcases hS with ⟨a, b⟩ | ⟨a, b⟩
              · refine br_f (by rw [a]; decide) (gv_give (nI r) hd hd6 hx hD hT hC hN Iw (fun cw => ?_) (fun w2 I2 lt => ?_))
                · intro y ey
                  rw [ey, nI_1]
                  exact ihq (k + 1) 0 w (by omega) Iw (Or.inr ⟨rfl, cw⟩)
                · intro y ey
                  rw [ey, nI_1]
                  exact ihq (k + 1) 1 w2 (by omega) I2 (Or.inl ⟨rfl, by omega⟩)
              · refine br_t a (fun y ey => ?_)
                rw [ey, nI_1]
                exact fin w Iw b
          exact ⟨65, rounds 64 0 1 y rfl I1 (Or.inl ⟨rfl, cu_63 x y⟩)⟩
        · refine br_f z (fun y ey => ?_)
          rw [ey, nI_1]
          refine ih (s + 1) si' (by omega) (by omega) h3 hC hDD (fun t t1 t2 hf => ?_)
          by_cases e : t = s
          · rw [e]; exact z
          · exact hall t t1 (by omega) hf
  -- the beginning
  have l1 : ∀ m s now' si', s + m = 64 → 1 ≤ s → (∀ t, 1 ≤ t → t < s → now' t = if xs_fa x t = true then 1 else 0) → (∀ t, 1 ≤ t → t < s → si' t = 0) → wY_canTurn_2 post (nI r) (nI d) rw cl (m + 1) (nI s) has now' pl ta si' := by
    intro m
    induction m with
    | zero =>
      intro s now' si' hs _ hn hz
      have e : s = 64 := by omega
      subst e
      refine br_t ys_ge64 ⟨64, l2 now' hn 63 1 si' rfl (by omega) (fun t t1 t2 => Or.inl (by rw [hz t t1 t2]; exact xd_z0)) (fun s t hA ne => absurd (hz s hA.1 hA.2.1) ne) (fun ε hG s t hA ne => absurd (hz s hA.1 hA.2.1) ne) (fun t t1 t2 => by omega)⟩
    | succ m ih =>
      intro s now' si' hs s1 hn hz
      have s64 : s < 64 := by omega
      have hi : vp_in (nI s) 64 := vp_in_nI s64 (by decide)
      have go : ∀ b : Int32, vp_nar .boolean b = (if xs_fa x s = true then 1 else 0) → vp_in (nI s) 64 ∧ ∀ y, y = upd now' (nI s).toNatClampNeg (vp_nar .boolean b) → vp_in (nI s) 64 ∧ ∀ z, z = upd si' (nI s).toNatClampNeg 0 → ∀ w, w = nI s + 1 → wY_canTurn_2 post (nI r) (nI d) rw cl (m + 1) w has y pl ta z := by
        intro b hb
        refine ⟨hi, fun y ey => ⟨hi, fun z ez w ew => ?_⟩⟩
        rw [ey, ez, ew, nI_1, xs_cl (by omega)]
        refine ih (s + 1) _ _ (by omega) (by omega) (ys_put hn hb) (fun t t1 t2 => ?_)
        by_cases e : t = s
        · rw [e, xs_us]
        · rw [xs_un e]; exact hz t t1 (by omega)
      refine br_f (ys_lt64 s64) (ys_isFacet hr s1 s64 h (fun hf => go 1 (by rw [hf]; exact nb_v1)) (fun hf => go 0 (by rw [hf]; exact nb_v0)))
  exact ⟨64, l1 63 1 now si rfl (by omega) (fun t t1 t2 => by omega) (fun t t1 t2 => by omega)⟩
/-! surface -/
theorem cu_above {post : Int32 → Prop} {rw cl : Int32} {has now pl si : Nat → Int32} {ta : Nat → Int64} {x : Int64} {r s : Nat} (hr : r < 4) (hs : s < 64) (h : ys_H has r (mk_b x)) (hp : post (nI (cn_c (fun t => xs_fa x t && decide (s &&& t = s)) 64))) : wpY_above post (rw, cl, has, now, pl, ta, si) (nI r) (nI s) := by
  have l : ∀ m t, t + m = 64 → 1 ≤ t → wY_above_5 post (nI r) (nI s) rw cl has now pl ta si (m + 1) (nI (cn_c (fun t => xs_fa x t && decide (s &&& t = s)) t)) (nI t) := by
    intro m
    induction m with
    | zero =>
      intro t ht _
      have e : t = 64 := by omega
      subst e
      exact br_t ys_ge64 hp
    | succ m ih =>
      intro t ht t1
      have t64 : t < 64 := by omega
      have hn := ih (t + 1) (by omega) (by omega)
      rw [cn_s] at hn
      have no : (xs_fa x t && decide (s &&& t = s)) = false → wY_above_5 post (nI r) (nI s) rw cl has now pl ta si (m + 1) (nI (cn_c (fun t => xs_fa x t && decide (s &&& t = s)) t)) (nI (t + 1)) := fun z => by
        rw [z] at hn; exact hn
      refine br_f (ys_lt64 t64) ?_
      by_cases e : s &&& t = s
      · refine br_t ((ys_sub s hs t t64).mpr e) (ys_isFacet hr t1 t64 h (fun hf => ?_) (fun hf => ?_))
        · refine br_f (by decide) (fun y ey z ez => ?_)
          rw [show (xs_fa x t && decide (s &&& t = s)) = true by simp [hf, e]] at hn
          rw [ey, ez, nI_1, nI_1]
          exact hn
        · refine br_t rfl (fun y ey => ?_)
          rw [ey, nI_1]
          exact no (by simp [hf])
      · refine br_f (fun z => e ((ys_sub s hs t t64).mp z)) (fun y ey => ?_)
        rw [ey, nI_1]
        exact no (by simp [e])
  have := l 63 1 rfl (by omega)
  rw [cn_s, show (xs_fa x 0 && decide (s &&& 0 = s)) = false by unfold xs_fa; simp] at this
  exact ⟨64, this⟩
theorem cu_two {post : Int32 → SY → Prop} {rw cl : Int32} {has now pl si : Nat → Int32} {ta : Nat → Int64} {x : Int64} {r d : Nat} (hr : r < 4) (hd6 : d < 6) (h : ys_H has r (mk_b x)) (hT : sc_T x d → wpY_canTurn (fun r_13 u => match u with | (a, b, c, d, e, f, g) => ((r_13 = 0 → post 1 (a, b, c, d, e, f, g)) ∧ (¬ r_13 = 0 → post 2 (a, b, c, d, e, f, g)))) (rw, cl, has, now, pl, ta, si) (nI r) (nI d)) (hn : ¬ sc_T x d → post 0 (rw, cl, has, now, pl, ta, si)) : ∃ n, wY_surface_65 post (nI r) (nI d) rw cl has now pl ta si n 1 := by
  have l : ∀ m s, s + m = 64 → 1 ≤ s → (∀ q, 1 ≤ q → q < s → mk_b x q = true → ed_pc q = d → cn_c (fun t => xs_fa x t && decide (q &&& t = q)) 64 = 2) → wY_surface_65 post (nI r) (nI d) rw cl has now pl ta si (m + 1) (nI s) := by
    intro m
    induction m with
    | zero =>
      intro s hs _ ok
      have e : s = 64 := by omega
      subst e
      exact br_t ys_ge64 (hT ok)
    | succ m ih =>
      intro s hs s1 ok
      have s64 : s < 64 := by omega
      have hpc := ed_pc_le s
      have next : (mk_b x s = true → ed_pc s = d → cn_c (fun t => xs_fa x t && decide (s &&& t = s)) 64 = 2) → wY_surface_65 post (nI r) (nI d) rw cl has now pl ta si (m + 1) (nI (s + 1)) := fun z => ih (s + 1) (by omega) (by omega) (fun q q1 q2 => by
        by_cases e : q = s
        · rw [e]; exact z
        · exact ok q q1 (by omega))
      refine br_f (ys_lt64 s64) (ys_ask hr s1 s64 h (fun hb => ?_) (fun hb => ys_degree s64 ?_))
      · intro y ey
        rw [ey, nI_1]
        exact next (fun z => by rw [hb] at z; exact absurd z (by decide))
      · by_cases e : ed_pc s = d
        · refine br_t ((ys_dk1 _ (by omega) d (by omega)).mpr e) (cu_above hr s64 h ?_)
          have hc := cn_le (fun t => xs_fa x t && decide (s &&& t = s)) 64
          by_cases q : cn_c (fun t => xs_fa x t && decide (s &&& t = s)) 64 = 2
          · refine br_t (by rw [q]; rfl) (fun y ey => ?_)
            rw [ey, nI_1]
            exact next (fun _ _ => q)
          · exact br_f (fun z => q ((nI_eq (b := 2) (by omega) (by decide)).mp z)) (hn (fun hT => q (hT s s1 s64 hb e)))
        · refine br_f (fun z => e ((ys_dk1 _ (by omega) d (by omega)).mp z)) (fun y ey => ?_)
          rw [ey, nI_1]
          exact next (fun _ z => absurd z e)
  exact ⟨64, l 63 1 rfl (by omega) (fun q q1 q2 => by omega)⟩
theorem cu_one {post : Int32 → SY → Prop} {rw cl : Int32} {has now pl si : Nat → Int32} {ta : Nat → Int64} {x : Int64} {r : Nat} (hr : r < 4) (h : ys_H has r (mk_b x)) (hno : (∀ d, 1 ≤ d → d < 6 → ¬ sc_D x d) → post 0 (rw, cl, has, now, pl, ta, si)) (hd : ∀ d, 1 ≤ d → d < 6 → sc_D x d → ∃ n, wY_surface_65 post (nI r) (nI d) rw cl has now pl ta si n 1) : ∃ n, wY_surface_14 post (nI r) rw cl has now pl ta si n (-1) 1 := by
  have l : ∀ m s k, s + m = 64 → 1 ≤ s → ((k = -1 ∧ ∀ t, t < s → xs_fa x t = false) ∨ ∃ e, e < 6 ∧ k = nI e ∧ (∃ t, t < s ∧ xs_fa x t = true) ∧ ∀ t, t < s → xs_fa x t = true → ed_pc t = e + 1) → wY_surface_14 post (nI r) rw cl has now pl ta si (m + 1) k (nI s) := by
    intro m
    induction m with
    | zero =>
      intro s k hs _ hk
      have e : s = 64 := by omega
      subst e
      refine br_t ys_ge64 ?_
      rcases hk with ⟨k1, k2⟩ | ⟨e, e6, k1, k2, k3⟩
      · refine br_f (by rw [k1]; decide) (hno (fun d _ _ hD => ?_))
        obtain ⟨t, ht, hf⟩ := hD.1
        rw [k2 t ht] at hf
        exact absurd hf (by decide)
      · by_cases e0 : e = 0
        · refine br_f (by rw [k1, e0]; decide) (hno (fun d d1 _ hD => ?_))
          obtain ⟨t, ht, hf⟩ := k2
          have a := k3 t ht hf
          have b := hD.2 t ht hf
          omega
        · rw [k1]
          exact br_t (nI_le (a := 1) (by omega) (by omega)) (hd e (by omega) e6 ⟨k2, k3⟩)
    | succ m ih =>
      intro s k hs s1 hk
      have s64 : s < 64 := by omega
      have hpc := ed_pc_le s
      have hp1 := xs_pc1 s s64 s1
      have ed : nI (ed_pc s) - 1 = nI (ed_pc s - 1) := xk_sub (b := 1) hp1
      -- the degree of s stands
      have take : xs_fa x s = true → (∀ t, t < s → xs_fa x t = true → ed_pc t = ed_pc s) → wY_surface_44 post (wY_surface_14 post (nI r) rw cl has now pl ta si (m + 1)) (nI r) (nI s) rw cl has now pl ta si := by
        intro hf hall
        refine ys_degree s64 (fun y ey => ?_)
        rw [ey, nI_1, ed]
        refine ih (s + 1) _ (by omega) (by omega) (Or.inr ⟨ed_pc s - 1, by omega, rfl, ⟨s, by omega, hf⟩, fun t ht hft => ?_⟩)
        by_cases e : t = s
        · rw [e]; omega
        · have := hall t (by omega) hft
          omega
      refine br_f (ys_lt64 s64) (ys_isFacet hr s1 s64 h (fun hf => ?_) (fun hf => ?_))
      · refine br_f (by decide) ?_
        rcases hk with ⟨k1, k2⟩ | ⟨e, e6, k1, k2, k3⟩
        · exact br_t (by rw [k1]; decide) (take hf (fun t ht hft => by rw [k2 t ht] at hft; exact absurd hft (by decide)))
        · rw [k1]
          refine br_f (nI_pos (by omega)) (ys_degree s64 ?_)
          by_cases q : ed_pc s = e + 1
          · exact br_t ((ys_dk _ (by omega) e (by omega)).mpr q) (take hf (fun t ht hft => by rw [k3 t ht hft, q]))
          · refine br_f (fun z => q ((ys_dk _ (by omega) e (by omega)).mp z)) (hno (fun d d1 d6 hD => ?_))
            obtain ⟨t, ht, hft⟩ := k2
            have a := k3 t ht hft
            have b := hD.2 t (by omega) hft
            have c := hD.2 s s64 hf
            omega
      · refine br_t rfl (fun y ey => ?_)
        rw [ey, nI_1]
        refine ih (s + 1) k (by omega) (by omega) ?_
        rcases hk with ⟨k1, k2⟩ | ⟨e, e6, k1, k2, k3⟩
        · refine Or.inl ⟨k1, fun t ht => ?_⟩
          by_cases e : t = s
          · rw [e]; exact hf
          · exact k2 t (by omega)
        · refine Or.inr ⟨e, e6, k1, ?_, fun t ht hft => ?_⟩
          · obtain ⟨t, ht, hft⟩ := k2
            exact ⟨t, by omega, hft⟩
          · by_cases q : t = s
            · rw [q, hf] at hft; exact absurd hft (by decide)
            · exact k3 t (by omega) hft
  exact ⟨64, l 63 1 (-1) rfl (by omega) (Or.inl ⟨rfl, fun t ht => by
    have e : t = 0 := by omega
    rw [e]; unfold xs_fa; simp⟩)⟩
theorem cu_num {n a b : Nat} (ha : a ≤ 20) (hb : b ≤ 20) : nI n - nI a - nI 0 = nI n - nI b - nI 0 ↔ a = b := by
  constructor
  · intro h
    have : nI a = nI b := by grind
    exact (nI_eq (by omega) (by omega)).mp this
  · intro h
    rw [h]
theorem i_vc_surface {k : Nat} {u : SX} {v : SY} (I : i_Rel k u v) (hk : k + 5 ≤ 2560) (v1 : Int32) : wpX_surface (fun r u' => wpY_surface (fun r' v' => r' = r ∧ i_Rel (k + 5) u' v') v v1) u v1 := by
  obtain ⟨lev, held, place, cells⟩ := u
  obtain ⟨rw, cl, has, now, pl, ta, si⟩ := v
  have I : re_R lev held place has := I
  unfold wpX_surface wpY_surface
  dsimp only
  rcases rg_cases v1 with hb | ⟨r, hr, rfl⟩
  · exact xs_reg_bad hb (br_t rfl (ys_reg_bad hb (br_t rfl ⟨rfl, I⟩)))
  have J := I.2.2 r hr
  have vr : vp_in (nI r) 4 := vp_in_nI hr (by decide)
  refine xs_reg hr (br_f (by decide) ⟨vr, ?_⟩)
  rw [xs_cl (by omega)]
  refine xs_facetsOf (fun w hw => xc_common hw (fun d hd6 hD => ?_) (fun hno => ?_))
  · by_cases d0 : d = 0
    · refine br_t (by rw [d0]; decide) (ys_reg hr (br_f (by decide) (cu_one hr J.2 (fun _ => ⟨rfl, I⟩) (fun e e1 e6 hE => ?_))))
      have := sc_uni hD hE
      omega
    · have d1 : 1 ≤ d := by omega
      refine br_f (nI_nlt (b := 1) d1 (by omega)) ⟨vr, xc_two d1 hd6 hw (fun hT => br_f (by decide) ⟨vr, ?_⟩) (fun hT => br_t rfl ?_)⟩
      · refine xv_dim (pp := 2) I.1 I.2.1 hd6 (Or.inr (Or.inl rfl)) (fun r1 r2 c1 b1 b2 R1 R2 => ⟨vr, ?_⟩)
        dsimp only
        refine xv_dim (pp := 0) I.1 I.2.1 hd6 (Or.inl rfl) (fun q1 q2 c2 b3 b4 Q1 Q2 => ?_)
        have z := sc_above0 hD
        have r2z : r2 = 0 := rk_uni R2 (rk_R_zero li_p2 (fun i j => by rw [z]; exact Int.dvd_zero _))
        have q2z : q2 = 0 := rk_uni Q2 (rk_R_zero li_p0 (fun i j => by rw [z]; exact Int.dvd_zero _))
        obtain ⟨s0, s2, S0, S2, SK⟩ := li_main 64 (ed_S (mk_b (held r)) d) (ed_SM _ d) (fun i j hij => ed_S_out hij)
        have eq : q1 = r1 ↔ ∃ ε, sf_G (ed_S (mk_b (held r)) d) ε := by
          rw [← sf_KS (sc_2 d1 J.1 hD hT), SK, rk_uni Q1 S0, rk_uni R1 S2]
        rw [r2z, q2z]
        by_cases ex : ∃ ε, sf_G (ed_S (mk_b (held r)) d) ε
        · refine br_t ((cu_num b3 b1).mpr (eq.mpr ex)) (ys_reg hr (br_f (by decide) (cu_one hr J.2 (fun no => absurd hD (no d d1 hd6)) (fun e e1 e6 hE => ?_))))
          have ee := sc_uni hD hE
          subst ee
          refine cu_two hr hd6 J.2 (fun _ => ?_) (fun no => absurd hT no)
          exact cu_can hr J.2 d1 hd6 J.1 hD hT (fun _ now' si' => br_f (by decide) ⟨rfl, I⟩) (fun no => absurd ex no)
        · refine br_f (fun y => ex (eq.mp ((cu_num b3 b1).mp y))) (ys_reg hr (br_f (by decide) (cu_one hr J.2 (fun no => absurd hD (no d d1 hd6)) (fun e e1 e6 hE => ?_))))
          have ee := sc_uni hD hE
          subst ee
          refine cu_two hr hd6 J.2 (fun _ => ?_) (fun no => absurd hT no)
          exact cu_can hr J.2 d1 hd6 J.1 hD hT (fun yes => absurd yes ex) (fun _ now' si' => br_t rfl ⟨rfl, I⟩)
      · refine ys_reg hr (br_f (by decide) (cu_one hr J.2 (fun no => absurd hD (no d d1 hd6)) (fun e e1 e6 hE => ?_)))
        have ee := sc_uni hD hE
        subst ee
        exact cu_two hr hd6 J.2 (fun yes => absurd yes hT) (fun _ => ⟨rfl, I⟩)
  · refine br_t (by decide) (ys_reg hr (br_f (by decide) (cu_one hr J.2 (fun _ => ⟨rfl, I⟩) (fun e e1 e6 hE => absurd hE (hno e e6)))))
