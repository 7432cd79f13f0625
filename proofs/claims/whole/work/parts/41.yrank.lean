/-! rows with factors of their own -/
theorem yr_Z {q : Int} (hq : rk_P q) {S V : Nat → Nat → Int} {e : Nat → Int} (he : ∀ i, ¬ q ∣ e i) (h : ∀ i j, S i j = e i * V i j) (n : Nat) : rk_Z q n S ↔ rk_Z q n V := by
  have key : ∀ ρ γ : Nat → Nat, ∀ k, k ≤ n → ∃ s : Int, ¬ q ∣ s ∧ dt_det n (fun i j => if i < k then S (ρ i) (γ j) else V (ρ i) (γ j)) = s * dt_det n (fun i j => V (ρ i) (γ j)) := by
    intro ρ γ k
    induction k with
    | zero =>
      intro _
      refine ⟨1, hq.2, ?_⟩
      rw [Int.one_mul]
      exact dt_det_ext (fun i j => by rw [if_neg (by omega)])
    | succ k ih =>
      intro hk
      obtain ⟨s, hs, es⟩ := ih (by omega)
      refine ⟨e (ρ k) * s, fun z => ?_, ?_⟩
      · rcases hq.1 _ _ z with z | z
        · exact he _ z
        · exact hs z
      · rw [Int.mul_assoc, ← es]
        have l := dt_lin_mul (n := n) (fun i j => if i < k then S (ρ i) (γ j) else V (ρ i) (γ j)) (fun j => V (ρ k) (γ j)) (e (ρ k)) (k := k) (by omega)
        rw [dt_det_ext (B := dt_up (fun i j => if i < k then S (ρ i) (γ j) else V (ρ i) (γ j)) k (fun j => V (ρ k) (γ j))) (C := fun i j => if i < k then S (ρ i) (γ j) else V (ρ i) (γ j)) (fun i j => by
          by_cases hik : i = k
          · subst hik; rw [dt_up_s, if_neg (by omega)]
          · rw [dt_up_n _ _ _ hik])] at l
        rw [← l]
        refine dt_det_ext (fun i j => ?_)
        by_cases hik : i = k
        · subst hik; rw [dt_up_s, if_pos (by omega), h]
        · rw [dt_up_n _ _ _ hik]
          by_cases h2 : i < k
          · rw [if_pos (by omega), if_pos h2]
          · rw [if_neg (by omega), if_neg h2]
  have eq : ∀ ρ γ : Nat → Nat, ∃ s : Int, ¬ q ∣ s ∧ dt_det n (fun i j => S (ρ i) (γ j)) = s * dt_det n (fun i j => V (ρ i) (γ j)) := by
    intro ρ γ
    obtain ⟨s, hs, es⟩ := key ρ γ n (Nat.le_refl n)
    refine ⟨s, hs, ?_⟩
    rw [← es]
    exact dt_det_congr (fun i j hi _ => by rw [if_pos hi])
  constructor
  · intro z ρ γ
    obtain ⟨s, hs, es⟩ := eq ρ γ
    have := z ρ γ
    rw [es] at this
    exact (hq.1 _ _ this).resolve_left hs
  · intro z ρ γ
    obtain ⟨s, hs, es⟩ := eq ρ γ
    rw [es]
    exact rk_dm _ (z ρ γ)
theorem yr_me {q : Int} (hq : rk_P q) {W V : Nat → Nat → Int} {e : Nat → Int} {p c s : Nat} (ha : ¬ q ∣ W p c) (he : ∀ i, ¬ q ∣ e i) (hV : ∀ i j, q ∣ e i * V i j - (W p c * W i j - W i c * W p j)) (h : rk_R q V s) : rk_R q W (s + 1) :=
  rk_R_m hq ha (V := fun i j => e i * V i j) hV (rk_R_same (V := V) (fun n => yr_Z hq he (fun _ _ => rfl) n) h)
theorem yr_wi {A B : Nat → Nat → Int} {e : Nat → Int} {r c : Nat} {q : Int} (h : ∀ i j, r < i → c < j → q ∣ e i * B i j - (A r c * A i j - A i c * A r j)) (i j : Nat) : q ∣ e i * wi_w B (r + 1) (c + 1) i j - (wi_w A r c r c * wi_w A r c i j - wi_w A r c i c * wi_w A r c r j) := by
  have := wi_Vm (A := A) (B := fun i j => e i * B i j) (r := r) (c := c) (q := q) h i j
  have eq : wi_w (fun i j => e i * B i j) (r + 1) (c + 1) i j = e i * wi_w B (r + 1) (c + 1) i j := by
    unfold wi_w
    split
    · rfl
    · exact (Int.mul_zero _).symm
  rw [eq] at this
  exact this
/-! long numbers -/
theorem yr_rem (x y : Int64) : (x - x / y * y).toInt = x.toInt.tmod y.toInt := by
  have e : x - x / y * y = x % y := by
    apply Int64.toInt_inj.mp
    have h1 := Int64.le_toInt (x % y)
    have h2 := Int64.toInt_lt (x % y)
    rw [Int64.toInt_sub, Int64.toInt_mul, Int64.toInt_div, Int.bmod_mul_bmod, Int.sub_bmod_bmod, Int.mul_comm (x.toInt.tdiv y.toInt), ← Int.tmod_def, ← Int64.toInt_mod]
    exact Int.bmod_eq_of_le_mul_two (by omega) (by omega)
  rw [e]
  exact Int64.toInt_mod x y
theorem yr_cross {x k y v : Int64} {m : Int} (hm : m ≤ 2000) (h1 : -m ≤ x.toInt ∧ x.toInt ≤ m) (h2 : -m ≤ k.toInt ∧ k.toInt ≤ m) (h3 : -m ≤ y.toInt ∧ y.toInt ≤ m) (h4 : -m ≤ v.toInt ∧ v.toInt ≤ m) : (x * k - y * v).toInt = x.toInt * k.toInt - y.toInt * v.toInt := by
  have p1 := nu_pr (m := 2000) (show -2000 ≤ x.toInt by omega) (by omega) (show -2000 ≤ k.toInt by omega) (by omega)
  have p2 := nu_pr (m := 2000) (show -2000 ≤ y.toInt by omega) (by omega) (show -2000 ≤ v.toInt by omega) (by omega)
  rw [nu_SUB, nu_MUL (by omega) (by omega), nu_MUL (by omega) (by omega)]
  · rw [nu_MUL (by omega) (by omega), nu_MUL (by omega) (by omega)]; omega
  · rw [nu_MUL (by omega) (by omega), nu_MUL (by omega) (by omega)]; omega
/-! rows change places -/
theorem yr_tb {R C : Nat} {c : Nat → Int64} {i j : Nat} (hi : i < R) (hj : j < C) : tb_Y R C c i j = (c (20 * i + j)).toInt := by unfold tb_Y; rw [if_pos ⟨hi, hj⟩]
theorem yr_to {R C : Nat} {c : Nat → Int64} {i j : Nat} (h : R ≤ i ∨ C ≤ j) : tb_Y R C c i j = 0 := by unfold tb_Y; rw [if_neg (by omega)]
theorem yr_exch {post : SY → Prop} {R C : Nat} {has now pl si : Nat → Int32} {ta : Nat → Int64} {a b : Nat} (hC : C ≤ 20) (ha : a < 20) (hb : b < 20) (hp : ∀ c', (∀ i j, i < 20 → j < 20 → c' (20 * i + j) = if j < C then ta (20 * wi_sw a b i + j) else ta (20 * i + j)) → post (nI R, nI C, has, now, pl, c', si)) : wpY_exchangeRows post (nI R, nI C, has, now, pl, ta, si) (nI a) (nI b) := by
  have l : ∀ d x c, x + d = C → (∀ i j, i < 20 → j < 20 → c (20 * i + j) = if j < x then ta (20 * wi_sw a b i + j) else ta (20 * i + j)) → wY_exchangeRows_2 post (nI a) (nI b) (nI R) (nI C) (d + 1) (nI x) has now pl c si := by
    intro d
    induction d with
    | zero =>
      intro x c hx h
      have e : x = C := by omega
      subst e
      exact br_t (nI_le (Nat.le_refl x) (by omega)) (hp c h)
    | succ d ih =>
      intro x c hx h
      have hx20 : x < 20 := by omega
      refine br_f (nI_ge (by omega) (by omega)) ?_
      rw [yt_ix, yt_ix, xt_cl ha hx20, xt_cl hb hx20]
      refine ⟨xt_vi ha hx20, fun y ey => ⟨xt_vi hb hx20, xt_vi ha hx20, fun c1 e1 => ⟨xt_vi hb hx20, fun c2 e2 z ez => ?_⟩⟩⟩
      rw [ez, nI_1]
      refine ih (x + 1) c2 (by omega) (fun i j hi hj => ?_)
      rw [e2, e1, ey]
      by_cases ej : j = x
      · subst ej
        rw [if_pos (by omega)]
        by_cases ib : i = b
        · subst ib
          rw [xs_uLs, h a j ha hj, if_neg (by omega)]
          congr 1
          unfold wi_sw
          split <;> simp_all
        · rw [xs_uLn (by omega)]
          by_cases ia : i = a
          · subst ia
            rw [xs_uLs, h b j hb hj, if_neg (by omega)]
            congr 1
            unfold wi_sw
            simp
          · rw [xs_uLn (by omega), h i j hi hj, if_neg (by omega)]
            congr 1
            unfold wi_sw
            simp [ia, ib]
      · rw [xs_uLn (by omega), xs_uLn (by omega), h i j hi hj]
        by_cases q : j < x
        · rw [if_pos q, if_pos (by omega)]
        · rw [if_neg q, if_neg (by omega)]
  exact ⟨C + 1, l C 0 ta (by omega) (fun i j _ _ => by rw [if_neg (by omega)])⟩
theorem yr_swT {R C : Nat} {ta c' : Nat → Int64} {a b : Nat} (hR : R ≤ 20) (hC : C ≤ 20) (ha : a < R) (hb : b < R) (h : ∀ i j, i < 20 → j < 20 → c' (20 * i + j) = if j < C then ta (20 * wi_sw a b i + j) else ta (20 * i + j)) (i j : Nat) : tb_Y R C c' i j = tb_Y R C ta (wi_sw a b i) j := by
  by_cases hi : i < R
  · by_cases hj : j < C
    · rw [yr_tb hi hj, yr_tb ((wi_sw_lt ha hb).mpr hi) hj, h i j (by omega) (by omega), if_pos hj]
    · rw [yr_to (by omega), yr_to (by omega)]
  · have := wi_sw_lt (i := i) ha hb
    rw [yr_to (by omega), yr_to (by omega)]
/-! elimination modulo p -/
def yr_y (ta : Nat → Int64) (t c i j : Nat) : Int64 := ta (20 * i + j) * ta (20 * t + c) - ta (20 * t + j) * ta (20 * i + c)
def yr_E (ta : Nat → Int64) (t c : Nat) (m : Int64) (i j : Nat) : Int64 := ((yr_y ta t c i j - yr_y ta t c i j / m * m) + m) - ((yr_y ta t c i j - yr_y ta t c i j / m * m) + m) / m * m
theorem yr_clear {post : SY → Prop} {R C : Nat} {has now pl si : Nat → Int32} {ta : Nat → Int64} {t c : Nat} {m : Int64} (hR : R ≤ 20) (hC : C ≤ 20) (ht : t < R) (hc : c < C) (hm : 2 ≤ m) (hm0 : ¬ m = 0) (hp : ∀ c', (∀ i j, i < 20 → j < 20 → c' (20 * i + j) = if t < i ∧ i < R ∧ j < C ∧ ta (20 * i + c) ≠ 0 then yr_E ta t c m i j else ta (20 * i + j)) → post (nI R, nI C, has, now, pl, c', si)) : wpY_clearModulo post (nI R, nI C, has, now, pl, ta, si) (nI t) (nI c) m := by
  have ht20 : t < 20 := by omega
  have hc20 : c < 20 := by omega
  have l : ∀ d x w, x + d = R → t < x → (∀ i j, i < 20 → j < 20 → w (20 * i + j) = if t < i ∧ i < x ∧ j < C ∧ ta (20 * i + c) ≠ 0 then yr_E ta t c m i j else ta (20 * i + j)) → wY_clearModulo_35 post (nI t) (nI c) m (ta (20 * t + c)) (nI R) (nI C) (d + 1) (nI x) has now pl w si := by
    intro d
    induction d with
    | zero =>
      intro x w hx h1 h
      have e : x = R := by omega
      subst e
      exact br_t (nI_le (Nat.le_refl x) (by omega)) (hp w h)
    | succ d ih =>
      intro x w hx h1 h
      have hx20 : x < 20 := by omega
      refine br_f (nI_ge (by omega) (by omega)) ?_
      rw [yt_ix, xt_cl hx20 hc20]
      refine ⟨xt_vi hx20 hc20, fun f ef => ?_⟩
      rw [h x c hx20 hc20, if_neg (by omega)] at ef
      by_cases f0 : f = 0
      · refine br_t f0 (fun y ey => ?_)
        rw [ey, nI_1]
        refine ih (x + 1) w (by omega) (by omega) (fun i j hi hj => ?_)
        rw [h i j hi hj]
        by_cases q : t < i ∧ i < x ∧ j < C ∧ ta (20 * i + c) ≠ 0
        · rw [if_pos q, if_pos ⟨q.1, by omega, q.2.2⟩]
        · rw [if_neg q, if_neg (fun z => q ⟨z.1, by
            have : i ≠ x := fun e => z.2.2.2 (by rw [e, ← ef]; exact f0)
            omega, z.2.2⟩)]
      · refine br_f f0 ?_
        have l2 : ∀ d2 y w2, y + d2 = C → (∀ i j, i < 20 → j < 20 → w2 (20 * i + j) = if (t < i ∧ i < x ∧ j < C ∧ ta (20 * i + c) ≠ 0) ∨ (i = x ∧ j < y) then yr_E ta t c m i j else ta (20 * i + j)) → wY_clearModulo_68 post (wY_clearModulo_35 post (nI t) (nI c) m (ta (20 * t + c)) (nI R) (nI C) (d + 1)) (nI t) (nI c) m (ta (20 * t + c)) (nI x) f (nI R) (nI C) (d2 + 1) (nI y) has now pl w2 si := by
          intro d2
          induction d2 with
          | zero =>
            intro y w2 hy h2
            have e : y = C := by omega
            subst e
            refine br_t (nI_le (Nat.le_refl y) (by omega)) (fun z ez => ?_)
            rw [ez, nI_1]
            refine ih (x + 1) w2 (by omega) (by omega) (fun i j hi hj => ?_)
            rw [h2 i j hi hj]
            by_cases q : (t < i ∧ i < x ∧ j < y ∧ ta (20 * i + c) ≠ 0) ∨ (i = x ∧ j < y)
            · rw [if_pos q, if_pos]
              rcases q with q | q
              · exact ⟨q.1, by omega, q.2.2⟩
              · exact ⟨by omega, by omega, q.2, by rw [q.1, ← ef]; exact f0⟩
            · rw [if_neg q, if_neg]
              intro z
              apply q
              by_cases e : i = x
              · exact Or.inr ⟨e, z.2.2.1⟩
              · exact Or.inl ⟨z.1, by omega, z.2.2⟩
          | succ d2 ih2 =>
            intro y w2 hy h2
            have hy20 : y < 20 := by omega
            refine br_f (nI_ge (by omega) (by omega)) ?_
            rw [yt_ix, yt_ix, xt_cl hx20 hy20, xt_cl ht20 hy20]
            refine ⟨xt_vi hx20 hy20, xt_vi ht20 hy20, hm0, hm0, xt_vi hx20 hy20, fun w3 e3 z ez => ?_⟩
            rw [ez, nI_1]
            rw [h2 x y hx20 hy20, h2 t y ht20 hy20, if_neg (by omega), if_neg (by omega), ef] at e3
            refine ih2 (y + 1) w3 (by omega) (fun i j hi hj => ?_)
            rw [e3]
            by_cases eij : i = x ∧ j = y
            · rw [eij.1, eij.2, xs_uLs, if_pos (Or.inr ⟨rfl, by omega⟩)]
              rfl
            · rw [xs_uLn (by omega), h2 i j hi hj]
              by_cases q : (t < i ∧ i < x ∧ j < C ∧ ta (20 * i + c) ≠ 0) ∨ (i = x ∧ j < y)
              · rw [if_pos q, if_pos]
                rcases q with q | q
                · exact Or.inl q
                · exact Or.inr ⟨q.1, by omega⟩
              · rw [if_neg q, if_neg]
                intro z
                apply q
                rcases z with z | z
                · exact Or.inl z
                · exact Or.inr ⟨z.1, by omega⟩
        refine ⟨C + 1, l2 C 0 w (by omega) (fun i j hi hj => ?_)⟩
        rw [h i j hi hj]
        by_cases q : t < i ∧ i < x ∧ j < C ∧ ta (20 * i + c) ≠ 0
        · rw [if_pos q, if_pos (Or.inl q)]
        · rw [if_neg q, if_neg (fun z => z.elim q (fun y => by omega))]
  have main : wY_clearModulo_15 post (nI t) (nI c) m (nI R) (nI C) has now pl ta si := by
    unfold wY_clearModulo_15
    rw [yt_ix, xt_cl ht20 hc20]
    refine ⟨xt_vi ht20 hc20, fun y ey z ez => ?_⟩
    rw [ey, ez, nI_1]
    exact ⟨R - (t + 1) + 1, l (R - (t + 1)) (t + 1) ta (by omega) (by omega) (fun i j hi hj => by rw [if_neg (by omega)])⟩
  exact br_t hm main
theorem yr_m1 : ∀ m, m < 22 → ∀ r, r < 22 → (nI m + (-1) < nI r ↔ m ≤ r) := by decide +kernel
theorem yr_m2 : ∀ m, m < 22 → nI m - 1 = nI m + (-1) := by decide +kernel
theorem yr_m3 {m : Nat} (h : 1 ≤ m) : nI m + (-1) = nI (m - 1) := by
  obtain ⟨k, rfl⟩ : ∃ k, m = k + 1 := ⟨m - 1, by omega⟩
  rw [← nI_1, Int32.add_assoc, show (1 : Int32) + (-1) = 0 from rfl, Int32.add_zero]
  rfl
/-- the row that is found -/
def yr_F (ta : Nat → Int64) (R c m : Nat) (found : Int32) : Prop := (found = -1 ∧ ∀ i, m ≤ i → i < R → ta (20 * i + c) = 0) ∨ ∃ f, m ≤ f ∧ f < R ∧ found = nI f ∧ ta (20 * f + c) ≠ 0
theorem yr_rank {post : Int32 → SY → Prop} {R C : Nat} {has now pl si : Nat → Int32} {ta : Nat → Int64} {m : Int64} {q : Int} (hR : R ≤ 20) (hC : C ≤ 20) (hmq : m.toInt = q) (hq : rk_P q) (q2 : 2 ≤ q) (q3 : q ≤ 1000) (hb : ∀ i j, i < 20 → j < 20 → -1 ≤ (ta (20 * i + j)).toInt ∧ (ta (20 * i + j)).toInt ≤ 1) (hp : ∀ r c', rk_R q (tb_Y R C ta) r → post (nI r) (nI R, nI C, has, now, pl, c', si)) : wpY_rankModulo post (nI R, nI C, has, now, pl, ta, si) m := by
  have hm : (2 : Int64) ≤ m := by
    rw [Int64.le_iff_toInt_le, hmq]
    have : (2 : Int64).toInt = 2 := by decide
    omega
  have hm0 : ¬ m = 0 := fun z => by
    rw [z, yt_l0] at hmq
    omega
  have zero : ∀ {A : Nat → Nat → Int}, (∀ i j, A i j = 0) → rk_R q A 0 := fun h => rk_R_zero hq (fun i j => by rw [h]; exact Int.dvd_zero _)
  -- the columns, one by one
  have l : ∀ d r c w, c + d = C → r ≤ R → (∀ i j, i < 20 → j < 20 → 0 ≤ (w (20 * i + j)).toInt ∧ (w (20 * i + j)).toInt < q) → (∀ s, rk_R q (wi_w (tb_Y R C w) r c) s → rk_R q (tb_Y R C ta) (r + s)) → wY_rankModulo_57 post m (d + 1) (nI r) (nI c) (nI R) (nI C) has now pl w si := by
    intro d
    induction d with
    | zero =>
      intro r c w hc hr _ h
      have e : c = C := by omega
      subst e
      refine br_t (nI_le (Nat.le_refl c) (by omega)) (hp r w ?_)
      have := h 0 (zero (fun i j => by
        by_cases z : r ≤ i ∧ c ≤ j
        · rw [wi_in z.1 z.2, yr_to (by omega)]
        · exact if_neg z))
      rwa [Nat.add_zero] at this
    | succ d ih =>
      intro r c w hc hr hw h
      have hc20 : c < 20 := by omega
      refine br_f (nI_ge (by omega) (by omega)) (fun y ey => ?_)
      rw [ey, yr_m2 R (by omega)]
      have l2 : ∀ d2 k found, k = r + d2 → k ≤ R → yr_F w R c k found → wY_rankModulo_77 post (wY_rankModulo_57 post m (d + 1)) m (nI r) (nI c) (nI R) (nI C) has now pl w si (d2 + 1) found (nI k + (-1)) := by
        intro d2
        induction d2 with
        | zero =>
          intro k found hk hkR hF
          have e : k = r := by omega
          subst e
          refine br_t ((yr_m1 k (by omega) k (by omega)).mpr (Nat.le_refl k)) ?_
          rcases hF with ⟨e1, e2⟩ | ⟨f, f1, f2, f3, f4⟩
          · refine br_t (by rw [e1]; decide) (fun y ey => ?_)
            rw [ey, nI_1]
            refine ih k (c + 1) w (by omega) hr hw (fun s hs => h s ?_)
            rw [wi_col (fun i hi => ?_)]
            · exact hs
            · by_cases z : i < R
              · rw [yr_tb z (by omega), e2 i hi z, yt_l0]
              · exact yr_to (by omega)
          · have kR : k < R := by omega
            refine br_f (by rw [f3]; exact nI_pos (by omega)) ?_
            rw [f3]
            refine yr_exch hC (by omega) (by omega) (fun w1 e1 => ?_)
            refine yr_clear hR hC kR (by omega) hm hm0 (fun w2 e2 => ?_)
            intro y ey z ez
            rw [ey, ez, nI_1, nI_1]
            have hsw := yr_swT hR hC f2 kR e1
            have hw1 : ∀ i j, i < 20 → j < 20 → 0 ≤ (w1 (20 * i + j)).toInt ∧ (w1 (20 * i + j)).toInt < q := fun i j hi hj => by
              rw [e1 i j hi hj]
              by_cases z : j < C
              · rw [if_pos z]
                exact hw _ _ ((wi_sw_lt (show f < 20 by omega) (show k < 20 by omega)).mpr hi) hj
              · rw [if_neg z]; exact hw i j hi hj
            have hy : ∀ i j, i < 20 → j < 20 → (yr_y w1 k c i j).toInt = (w1 (20 * i + j)).toInt * (w1 (20 * k + c)).toInt - (w1 (20 * k + j)).toInt * (w1 (20 * i + c)).toInt := fun i j hi hj => by
              have b1 := hw1 i j hi hj
              have b2 := hw1 k c (by omega) hc20
              have b3 := hw1 k j (by omega) hj
              have b4 := hw1 i c hi hc20
              exact yr_cross (m := 1000) (by omega) (by omega) (by omega) (by omega) (by omega)
            have hE : ∀ i j, i < 20 → j < 20 → ∃ g : Int, (yr_E w1 k c m i j).toInt = (w1 (20 * i + j)).toInt * (w1 (20 * k + c)).toInt - (w1 (20 * k + j)).toInt * (w1 (20 * i + c)).toInt + q * g ∧ 0 ≤ (yr_E w1 k c m i j).toInt ∧ (yr_E w1 k c m i j).toInt < q := fun i j hi hj => by
              have e1 : (yr_y w1 k c i j - yr_y w1 k c i j / m * m).toInt = ((w1 (20 * i + j)).toInt * (w1 (20 * k + c)).toInt - (w1 (20 * k + j)).toInt * (w1 (20 * i + c)).toInt).tmod q := by
                rw [yr_rem, hmq, hy i j hi hj]
              generalize (w1 (20 * i + j)).toInt * (w1 (20 * k + c)).toInt - (w1 (20 * k + j)).toInt * (w1 (20 * i + c)).toInt = Y at *
              have tb := tmod_bounds (a := Y) (show 0 < q by omega)
              have e2 : (yr_y w1 k c i j - yr_y w1 k c i j / m * m + m).toInt = Y.tmod q + q := by
                rw [nu_ADD, e1, hmq]
                · rw [e1, hmq]; omega
                · rw [e1, hmq]; omega
              have e3 : (yr_E w1 k c m i j).toInt = (Y.tmod q + q).tmod q := by
                unfold yr_E
                rw [yr_rem, hmq, e2]
              have tb2 := tmod_bounds (a := Y.tmod q + q) (show 0 < q by omega)
              have nn := Int.tmod_nonneg (a := Y.tmod q + q) q (by omega)
              refine ⟨1 - Y.tdiv q - (Y.tmod q + q).tdiv q, ?_, by omega, by omega⟩
              rw [e3, Int.tmod_def (Y.tmod q + q) q]
              generalize (Y.tmod q + q).tdiv q = T2
              rw [Int.tmod_def Y q]
              generalize Y.tdiv q = T1
              rw [Int.mul_sub, Int.mul_sub, Int.mul_one]
              omega
            refine ih (k + 1) (c + 1) w2 (by omega) (by omega) (fun i j hi hj => ?_) (fun s hs => ?_)
            · rw [e2 i j hi hj]
              split
              · obtain ⟨g, g1, g2, g3⟩ := hE i j hi hj
                exact ⟨g2, g3⟩
              · exact hw1 i j hi hj
            · have lead : tb_Y R C w1 k c = (w1 (20 * k + c)).toInt := yr_tb kR (by omega)
              have nz1 : ¬ q ∣ (w1 (20 * k + c)).toInt := by
                have ne : w1 (20 * k + c) ≠ 0 := by
                  rw [e1 k c (by omega) hc20, if_pos (by omega)]
                  have : wi_sw f k k = f := by
                    unfold wi_sw
                    split
                    · rename_i z; exact z
                    · rw [if_pos rfl]
                  rw [this]
                  exact f4
                have ne2 : (w1 (20 * k + c)).toInt ≠ 0 := fun z => ne (Int64.toInt_inj.mp (by rw [z, yt_l0]))
                have b := hw1 k c (by omega) hc20
                rintro ⟨g, hg⟩
                rw [hg] at ne2 b
                by_cases m0 : g = 0
                · rw [m0, Int.mul_zero] at ne2; exact ne2 rfl
                · by_cases mp : 0 < g
                  · have : q * 1 ≤ q * g := Int.mul_le_mul_of_nonneg_left (by omega) (by omega)
                    rw [Int.mul_one] at this
                    omega
                  · have : q * g ≤ q * (-1) := Int.mul_le_mul_of_nonneg_left (by omega) (by omega)
                    rw [Int.mul_neg, Int.mul_one] at this
                    omega
              have nz : ¬ q ∣ wi_w (tb_Y R C w1) k c k c := by
                rw [wi_in (Nat.le_refl k) (Nat.le_refl c), lead]; exact nz1
              have R1 : rk_R q (wi_w (tb_Y R C w1) k c) (s + 1) := by
                refine yr_me hq (e := fun i => if k < i ∧ i < R ∧ w1 (20 * i + c) ≠ 0 then 1 else (w1 (20 * k + c)).toInt) nz (fun i => ?_) (yr_wi (B := tb_Y R C w2) (fun i j hi hj => ?_)) hs
                · show ¬ q ∣ if k < i ∧ i < R ∧ w1 (20 * i + c) ≠ 0 then 1 else (w1 (20 * k + c)).toInt
                  split
                  · exact hq.2
                  · exact nz1
                · show q ∣ (if k < i ∧ i < R ∧ w1 (20 * i + c) ≠ 0 then 1 else (w1 (20 * k + c)).toInt) * tb_Y R C w2 i j - _
                  by_cases hij : i < R ∧ j < C
                  · rw [yr_tb hij.1 hij.2, yr_tb (c := w1) hij.1 hij.2, yr_tb (c := w1) hij.1 (show c < C by omega), yr_tb (c := w1) kR hij.2, lead, e2 i j (by omega) (by omega)]
                    by_cases g : w1 (20 * i + c) ≠ 0
                    · rw [if_pos ⟨hi, hij.1, g⟩, if_pos ⟨hi, hij.1, hij.2, g⟩, Int.one_mul]
                      obtain ⟨g, g1, _⟩ := hE i j (by omega) (by omega)
                      rw [g1, Int.mul_comm (w1 (20 * i + j)).toInt, Int.mul_comm (w1 (20 * k + j)).toInt]
                      exact ⟨g, by omega⟩
                    · rw [if_neg (fun z => g z.2.2), if_neg (fun z => g z.2.2.2)]
                      have g0 : w1 (20 * i + c) = 0 := Classical.byContradiction g
                      rw [g0, yt_l0, Int.zero_mul, Int.sub_zero, Int.sub_self]
                      exact Int.dvd_zero q
                  · have x3 : tb_Y R C w1 i c * tb_Y R C w1 k j = 0 := by
                      by_cases iR : i < R
                      · rw [yr_to (c := w1) (i := k) (j := j) (by omega), Int.mul_zero]
                      · rw [yr_to (c := w1) (i := i) (j := c) (by omega), Int.zero_mul]
                    rw [yr_to (by omega), yr_to (c := w1) (i := i) (j := j) (by omega), x3, Int.mul_zero, Int.mul_zero]
                    exact Int.dvd_zero q
              have R2 : rk_R q (wi_w (tb_Y R C w) k c) (s + 1) := wi_R_re (wi_sw f k) (fun j => j) (wi_sw_sw f k) (fun _ => rfl) (wi_re (wi_sw f k) (fun j => j) (fun i => wi_sw_ge f1 (Nat.le_refl k)) (fun _ => Iff.rfl) hsw) R1
              have := h (s + 1) R2
              rw [show k + 1 + s = k + (s + 1) by omega]
              exact this
        | succ d2 ih2 =>
          intro k found hk hkR hF
          have k1 : 1 ≤ k := by omega
          refine br_f (fun z => by have := (yr_m1 k (by omega) r (by omega)).mp z; omega) ?_
          rw [yr_m3 k1, yt_ix, xt_cl (by omega) hc20]
          refine ⟨xt_vi (by omega) hc20, ?_⟩
          by_cases z : w (20 * (k - 1) + c) = 0
          · refine br_t z (fun y ey => ?_)
            rw [ey]
            refine ih2 (k - 1) found (by omega) (by omega) ?_
            rcases hF with ⟨e1, e2⟩ | ⟨f, f1, f2, f3, f4⟩
            · refine Or.inl ⟨e1, fun i i1 i2 => ?_⟩
              by_cases e : i = k - 1
              · rw [e]; exact z
              · exact e2 i (by omega) i2
            · exact Or.inr ⟨f, by omega, f2, f3, f4⟩
          · refine br_f z (fun y ey => ?_)
            rw [ey]
            exact ih2 (k - 1) _ (by omega) (by omega) (Or.inr ⟨k - 1, Nat.le_refl _, by omega, rfl, z⟩)
      exact ⟨R - r + 1, l2 (R - r) R (-1) (by omega) (Nat.le_refl R) (Or.inl ⟨rfl, fun i i1 i2 => by omega⟩)⟩
  -- the rests
  have l0 : ∀ d x w, x + d = 400 → (∀ i, i < 400 → w i = if i < x then (ta i + m) - (ta i + m) / m * m else ta i) → wY_rankModulo_19 post m (nI R) (nI C) (d + 1) (nI x) has now pl w si := by
    intro d
    induction d with
    | zero =>
      intro x w hx h
      have e : x = 400 := by omega
      subst e
      have v : ∀ i j, i < 20 → j < 20 → (w (20 * i + j)).toInt = ((ta (20 * i + j)).toInt + q).tmod q := fun i j hi hj => by
        have b := hb i j hi hj
        rw [h _ (by omega), if_pos (by omega), yr_rem, hmq, nu_ADD, hmq]
        · rw [hmq]; omega
        · rw [hmq]; omega
      refine br_t (nI_le (a := 400) (b := 400) (by omega) (by decide)) ⟨C + 1, l C 0 0 w (by omega) (by omega) (fun i j hi hj => ?_) (fun s hs => ?_)⟩
      · rw [v i j hi hj]
        have b := hb i j hi hj
        have tb := tmod_bounds (a := (ta (20 * i + j)).toInt + q) (show 0 < q by omega)
        have nn := Int.tmod_nonneg (a := (ta (20 * i + j)).toInt + q) q (by omega)
        omega
      · rw [Nat.zero_add]
        have w0 : wi_w (tb_Y R C w) 0 0 = tb_Y R C w := by
          funext i j
          exact wi_in (Nat.zero_le i) (Nat.zero_le j)
        rw [w0] at hs
        have md : ∀ i j, ∃ g, tb_Y R C w i j - tb_Y R C ta i j = q * g := by
          intro i j
          by_cases hij : i < R ∧ j < C
          · rw [yr_tb hij.1 hij.2, yr_tb hij.1 hij.2, v i j (by omega) (by omega), Int.tmod_def]
            generalize ((ta (20 * i + j)).toInt + q).tdiv q = T
            exact ⟨1 - T, by rw [Int.mul_sub, Int.mul_one]; omega⟩
          · rw [yr_to (by omega), yr_to (by omega)]
            exact ⟨0, by rw [Int.mul_zero]; rfl⟩
        refine rk_R_same (V := tb_Y R C w) (fun n => ⟨fun z => ?_, fun z => ?_⟩) hs
        · refine rk_Z_mod (fun i j => ?_) z
          exact md i j
        · refine rk_Z_mod (fun i j => ?_) z
          obtain ⟨g, hg⟩ := md i j
          exact ⟨- g, by rw [Int.mul_neg, ← hg]; omega⟩
    | succ d ih =>
      intro x w hx h
      refine br_f (nI_ge (b := 400) (by omega) (by decide)) ⟨vp_in_nI (by omega) (by decide), hm0, vp_in_nI (by omega) (by decide), fun y ey z ez => ?_⟩
      rw [ez, nI_1]
      rw [xs_cl (by omega), h x (by omega), if_neg (by omega)] at ey
      refine ih (x + 1) y (by omega) (fun i hi => ?_)
      rw [ey]
      by_cases e : i = x
      · subst e; rw [xs_uLs, if_pos (by omega)]
      · rw [xs_uLn e, h i hi]
        by_cases q : i < x
        · rw [if_pos q, if_pos (by omega)]
        · rw [if_neg q, if_neg (by omega)]
  exact br_t hm ⟨401, l0 400 0 ta rfl (fun i hi => by rw [if_neg (by omega)])⟩
