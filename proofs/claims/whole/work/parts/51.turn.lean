/-! turn -/
def tu_a (s t : Nat) (p : Int32) (v : Nat) : Int32 := if s &&& (63 ^^^ t) = 2 ^ v then p * xt_sg (ed_pc (s % 2 ^ v)) else p
def tu_p (s t : Nat) : Nat → Int32
  | 0 => 1
  | v + 1 => tu_a t s (tu_a s t (tu_p s t v) v) v
theorem tu_ok : ∀ s, s < 64 → ∀ t, t < 64 → ed_pc s = ed_pc (s &&& t) + 1 → ed_pc t = ed_pc (s &&& t) + 1 → (tu_p s t 6).toInt = sc_t s t := by decide +kernel
theorem tu_turn {post : Int32 → Prop} {u : SY} {s t : Nat} (hs : s < 64) (ht : t < 64) (hp : post (tu_p s t 6)) : wpY_turn post u (nI s) (nI t) := by
  obtain ⟨rw, cl, has, now, pl, ta, si⟩ := u
  have l : ∀ d v, v + d = 6 → wY_turn_5 post (nI s) (nI t) rw cl has now pl ta si (d + 1) (tu_p s t v) (nI v) := by
    intro d
    induction d with
    | zero =>
      intro v hv
      have e : v = 6 := by omega
      subst e
      exact br_t ys_ge6 hp
    | succ d ih =>
      intro v hv
      have hv6 : v < 6 := by omega
      obtain ⟨e1, e2, e3⟩ := pi_v v hv6
      have hn := ih (v + 1) (by omega)
      have b1 := st_and_le s (63 ^^^ t)
      have b2 := st_and_le t (63 ^^^ s)
      have half : ∀ p : Int32, wY_turn_5 post (nI s) (nI t) rw cl has now pl ta si (d + 1) (tu_a t s p v) (nI (v + 1)) → wY_turn_34 post (wY_turn_5 post (nI s) (nI t) rw cl has now pl ta si (d + 1)) (nI s) (nI t) p (nI v) rw cl has now pl ta si := by
        intro p hq
        unfold wY_turn_34
        rw [e1, pi_not t ht s hs]
        unfold tu_a at hq
        by_cases q : t &&& (63 ^^^ s) = 2 ^ v
        · rw [if_pos q] at hq
          refine br_t (by rw [q]) (yt_factor ht (by omega) (fun y ey z ez => ?_))
          rw [ey, ez, nI_1]
          exact hq
        · rw [if_neg q] at hq
          refine br_f (fun z => q ((nI_eq (by omega) (by omega)).mp z)) (fun y ey => ?_)
          rw [ey, nI_1]
          exact hq
      refine br_f (ys_lt6 hv6) ?_
      rw [e1, pi_not s hs t ht]
      have hn2 : wY_turn_5 post (nI s) (nI t) rw cl has now pl ta si (d + 1) (tu_a t s (tu_a s t (tu_p s t v) v) v) (nI (v + 1)) := hn
      by_cases q : s &&& (63 ^^^ t) = 2 ^ v
      · refine br_t (by rw [q]) (yt_factor hs (by omega) (fun y ey => ?_))
        rw [ey]
        refine half _ ?_
        rw [show tu_a s t (tu_p s t v) v = tu_p s t v * xt_sg (ed_pc (s % 2 ^ v)) from if_pos q] at hn2
        exact hn2
      · refine br_f (fun z => q ((nI_eq (by omega) (by omega)).mp z)) (half _ ?_)
        rw [show tu_a s t (tu_p s t v) v = tu_p s t v from if_neg q] at hn2
        exact hn2
  exact ⟨7, l 6 0 rfl⟩
/-! signs that are given -/
/-- the sign is 0, 1 or -1 -/
def gv_3 (si : Nat → Int32) : Prop := ∀ t, 1 ≤ t → t < 64 → (si t).toInt = 0 ∨ (si t).toInt = 1 ∨ (si t).toInt = -1
def gv_n (x : Int64) (si : Nat → Int32) (t : Nat) : Bool := xs_fa x t && decide (si t = 0)
/-- no facet without sign beside one with a sign -/
def gv_C (x : Int64) (d : Nat) (si : Nat → Int32) : Prop := ∀ s t, sc_A x d s t → si s ≠ 0 → si t ≠ 0
/-- the signs si grew out of s0 and the first sign at c -/
def gv_I (x : Int64) (d : Nat) (s0 si : Nat → Int32) (c : Nat) : Prop := gv_3 si ∧ (∀ t, s0 t ≠ 0 → si t = s0 t) ∧ si c ≠ 0 ∧ ∀ ε, sf_G (ed_S (mk_b x) d) ε → ∀ t, 1 ≤ t → t < 64 → s0 t = 0 → si t ≠ 0 → (si t).toInt * ε t = ε c
theorem gv_strict {f g : Nat → Bool} {t : Nat} (hf : f t = true) (hg : g t = false) : ∀ {n : Nat}, t < n → (∀ i, i < n → g i = true → f i = true) → cn_c g n < cn_c f n := by
  intro n
  induction n with
  | zero => intro h; omega
  | succ n ih =>
    intro h hi
    rw [cn_s, cn_s]
    by_cases e : t = n
    · subst e
      rw [hf, hg]
      have := cn_imp (n := t) (fun i h1 h2 => hi i (by omega) h2)
      simp
      omega
    · have a := ih (by omega) (fun i h1 h2 => hi i (by omega) h2)
      cases hgn : g n
      · simp
        split <;> omega
      · rw [hi n (by omega) hgn]
        simp
        omega
theorem gv_step {x : Int64} {d : Nat} {s0 si : Nat → Int32} {c s t : Nat} (hd : 1 ≤ d) (hx : re_C x) (hD : sc_D x d) (hT : sc_T x d) (h0 : gv_C x d s0) (I : gv_I x d s0 si c) (hA : sc_A x d s t) (hs : si s ≠ 0) (ht : si t = 0) : gv_I x d s0 (upd si t ((- si s) * tu_p s t 6)) c ∧ cn_c (gv_n x (upd si t ((- si s) * tu_p s t 6))) 64 < cn_c (gv_n x si) 64 := by
  obtain ⟨s1, s2, t1, t2, fs, ft, hp⟩ := hA
  have hA : sc_A x d s t := ⟨s1, s2, t1, t2, fs, ft, hp⟩
  have ps := hD.2 s s2 fs
  have pt := hD.2 t t2 ft
  have tu := tu_ok s s2 t t2 (by omega) (by omega)
  have hT1 : sc_t s t = 1 ∨ sc_t s t = -1 := by
    have is : (s &&& t) &&& s = s &&& t := by rw [Nat.and_comm s t, Nat.and_assoc, Nat.and_self]
    have it : (s &&& t) &&& t = s &&& t := by rw [Nat.and_assoc, Nat.and_self]
    unfold sc_t
    rcases sc_en (i := s &&& t) (t := s) is (by omega) with a | a <;> rcases sc_en (i := s &&& t) (t := t) it (by omega) with b | b <;> rw [a, b] <;> decide
  have hsv : (si s).toInt = 1 ∨ (si s).toInt = -1 := by
    rcases I.1 s s1 s2 with a | a
    · exact absurd (Int32.toInt_inj.mp (by rw [a, xd_z0])) hs
    · exact a
  have val : ((- si s) * tu_p s t 6).toInt = - (si s).toInt * sc_t s t := by
    rw [nu_mul, nu_neg (by omega) (by omega), tu]
    · rw [nu_neg (by omega) (by omega), tu]
      rcases hsv with a | a <;> rcases hT1 with b | b <;> rw [a, b] <;> decide
    · rw [nu_neg (by omega) (by omega), tu]
      rcases hsv with a | a <;> rcases hT1 with b | b <;> rw [a, b] <;> decide
  have val1 : ((- si s) * tu_p s t 6).toInt = 1 ∨ ((- si s) * tu_p s t 6).toInt = -1 := by
    rw [val]
    rcases hsv with a | a <;> rcases hT1 with b | b <;> rw [a, b] <;> decide
  have ne0 : (- si s) * tu_p s t 6 ≠ 0 := fun z => by
    rw [z, xd_z0] at val1
    omega
  have hst : s ≠ t := fun z => by rw [z] at hs; exact hs ht
  have s0t : s0 t = 0 := Classical.byContradiction fun z => by
    have := I.2.1 t z
    rw [ht] at this
    exact z this.symm
  have s0s : s0 s = 0 := Classical.byContradiction fun z => h0 s t hA z s0t
  refine ⟨⟨fun q q1 q2 => ?_, fun q hq => ?_, ?_, fun ε hG q q1 q2 q3 q4 => ?_⟩, ?_⟩
  · by_cases e : q = t
    · rw [e, xs_us]
      rcases val1 with a | a
      · exact Or.inr (Or.inl a)
      · exact Or.inr (Or.inr a)
    · rw [xs_un e]; exact I.1 q q1 q2
  · by_cases e : q = t
    · rw [e] at hq; exact absurd s0t hq
    · rw [xs_un e]; exact I.2.1 q hq
  · by_cases e : c = t
    · rw [e, xs_us]; exact ne0
    · rw [xs_un e]; exact I.2.2.1
  · by_cases e : q = t
    · rw [e, xs_us, val]
      have g := sc_G1 hd hx hD hT hG hA
      have k := I.2.2.2 ε hG s s1 s2 s0s hs
      rw [← k]
      rcases hG.1 s with a | a <;> rcases hG.1 t with b | b <;> rcases hT1 with c | c <;> rw [a, b, c] at g <;> rw [a, b, c] <;> omega
    · rw [xs_un e] at q4 ⊢
      exact I.2.2.2 ε hG q q1 q2 q3 q4
  · refine gv_strict (t := t) ?_ ?_ t2 (fun i hi h => ?_)
    · unfold gv_n; rw [ft, ht]; rfl
    · unfold gv_n; rw [xs_us, decide_eq_false ne0, Bool.and_false]
    · unfold gv_n at h ⊢
      by_cases e : i = t
      · rw [e, xs_us, decide_eq_false ne0, Bool.and_false] at h
        exact absurd h (by decide)
      · rw [xs_un e] at h; exact h
theorem gv_div {a : Nat} (ha : a < 5000) : nI a / 64 = nI (a / 64) := by
  apply Int32.toInt_inj.mp
  rw [show (64 : Int32) = nI 64 from rfl, lg_idiv_nonneg (by rw [nI_toInt (by omega)]; omega) (by rw [nI_toInt (by omega)]; omega), nI_toInt (by omega), nI_toInt (by omega), nI_toInt (by have := Nat.div_le_self a 64; omega)]
  first | rfl | exact (Int.natCast_ediv _ _).symm
theorem gv_mod {a : Nat} (ha : a < 5000) : nI a - nI a / 64 * 64 = nI (a % 64) := by
  rw [gv_div ha, show nI (a / 64) * 64 = nI (a / 64 * 64) from (Int32.ofNat_mul (a / 64) 64).symm, xk_sub (by omega), show a - a / 64 * 64 = a % 64 by omega]
theorem gv_give {post : Int32 → SY → Prop} {rw cl : Int32} {has now pl si : Nat → Int32} {ta : Nat → Int64} {x : Int64} {d c : Nat} {s0 : Nat → Int32} (rr : Int32) (hd : 1 ≤ d) (hd6 : d < 6) (hx : re_C x) (hD : sc_D x d) (hT : sc_T x d) (h0 : gv_C x d s0) (hN : yt_N now (xs_fa x)) (I : gv_I x d s0 si c) (hf : gv_C x d si → post 0 (rw, cl, has, now, pl, ta, si)) (ht : ∀ si', gv_I x d s0 si' c → cn_c (gv_n x si') 64 < cn_c (gv_n x si) 64 → post 1 (rw, cl, has, now, pl, ta, si')) : wpY_give post (rw, cl, has, now, pl, ta, si) rr (nI d) := by
  have l : ∀ m k some si', k + m = 4096 → gv_I x d s0 si' c → ((some = 0 ∧ si' = si ∧ ∀ q, q < k → sc_A x d (q / 64) (q % 64) → si (q / 64) ≠ 0 → si (q % 64) ≠ 0) ∨ (some = 1 ∧ cn_c (gv_n x si') 64 < cn_c (gv_n x si) 64)) → wY_give_5 post (nI d) rw cl (m + 1) some (nI k) has now pl ta si' := by
    intro m
    induction m with
    | zero =>
      intro k some si' hk I' h
      have e : k = 4096 := by omega
      subst e
      refine br_t (nI_le (a := 4096) (b := 4096) (by omega) (by decide)) ?_
      rcases h with ⟨e1, e2, e3⟩ | ⟨e1, e2⟩
      · rw [e1, e2]
        refine ⟨nb_0, hf (fun s t hA => ?_)⟩
        have b1 := hA.2.1
        have b2 := hA.2.2.2.1
        have := e3 (64 * s + t) (by omega)
        rw [show (64 * s + t) / 64 = s by omega, show (64 * s + t) % 64 = t by omega] at this
        exact this hA
      · rw [e1]
        exact ⟨nb_1, ht si' I' e2⟩
    | succ m ih =>
      intro k some si' hk I' h
      refine br_f (nI_ge (b := 4096) (by omega) (by decide)) ⟨by decide, fun s es => ⟨by decide, fun t et => ?_⟩⟩
      rw [gv_div (by omega)] at es
      rw [gv_mod (by omega)] at et
      have hs : k / 64 < 64 := by omega
      have htt : k % 64 < 64 := by omega
      -- nothing to give here
      have skip : ¬ (sc_A x d (k / 64) (k % 64) ∧ si' (k / 64) ≠ 0 ∧ si' (k % 64) = 0) → ∀ y, y = nI k + 1 → wY_give_5 post (nI d) rw cl (m + 1) some y has now pl ta si' := by
        intro no y ey
        rw [ey, nI_1]
        refine ih (k + 1) some si' (by omega) I' ?_
        rcases h with ⟨e1, e2, e3⟩ | ⟨e1, e2⟩
        · refine Or.inl ⟨e1, e2, fun q hq hA hne => ?_⟩
          by_cases e : q = k
          · rw [e] at hA hne ⊢
            intro z
            exact no ⟨hA, by rw [e2]; exact hne, by rw [e2]; exact z⟩
          · exact e3 q (by omega) hA hne
        · exact Or.inr ⟨e1, e2⟩
      rw [es, et]
      by_cases a0 : k / 64 = 0
      · exact br_t (by rw [a0]; exact nI_le (a := 0) (b := 0) (by omega) (by decide)) (skip (fun z => by have := z.1.1; omega))
      refine br_f (nI_nle (by omega) (by omega)) ?_
      by_cases b0 : k % 64 = 0
      · exact br_t (by rw [b0]; exact nI_le (a := 0) (b := 0) (by omega) (by decide)) (skip (fun z => by have := z.1.2.2.1; omega))
      refine br_f (nI_nle (by omega) (by omega)) ?_
      refine yt_ask hN (by omega) hs (fun hS => skip (fun z => by have := z.1.2.2.2.2.1; rw [hS] at this; exact absurd this (by decide))) (fun hS => ?_)
      refine yt_ask hN (by omega) htt (fun hS2 => skip (fun z => by have := z.1.2.2.2.2.2.1; rw [hS2] at this; exact absurd this (by decide))) (fun hS2 => ?_)
      refine ⟨vp_in_nI hs (by decide), ?_⟩
      rw [xs_cl (show k / 64 < 1000 by omega), xs_cl (show k % 64 < 1000 by omega)]
      by_cases c0 : si' (k / 64) = 0
      · exact br_t c0 (skip (fun z => z.2.1 c0))
      refine br_f c0 ⟨vp_in_nI htt (by decide), ?_⟩
      by_cases d0 : si' (k % 64) = 0
      · refine br_t d0 ?_
        rw [st_and]
        have i64 : k / 64 &&& k % 64 < 64 := by have := st_and_le (k / 64) (k % 64); omega
        have hpc := ed_pc_le (k / 64 &&& k % 64)
        refine ys_degree i64 ?_
        by_cases e : ed_pc (k / 64 &&& k % 64) = d
        · refine br_t ((ys_dk1 _ (by omega) d (by omega)).mpr e) ⟨vp_in_nI hs (by decide), tu_turn hs htt ⟨vp_in_nI htt (by decide), fun y ey z ez => ?_⟩⟩
          rw [ez, nI_1]
          have hA : sc_A x d (k / 64) (k % 64) := ⟨by omega, hs, by omega, htt, hS, hS2, e⟩
          obtain ⟨I2, lt⟩ := gv_step hd hx hD hT h0 I' hA c0 d0
          rw [ey]
          refine ih (k + 1) 1 _ (by omega) I2 (Or.inr ⟨rfl, ?_⟩)
          rcases h with ⟨e1, e2, e3⟩ | ⟨e1, e2⟩
          · rw [e2] at lt ⊢; exact lt
          · omega
        · exact br_f (fun z => e ((ys_dk1 _ (by omega) d (by omega)).mp z)) (skip (fun z => e z.1.2.2.2.2.2.2))
      · exact br_f d0 (skip (fun z => d0 z.2.2))
  exact ⟨4097, l 4096 0 0 si rfl I (Or.inl ⟨rfl, rfl, fun q hq => by omega⟩)⟩
