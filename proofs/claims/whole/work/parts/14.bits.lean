/-! masks of 64 bits -/
def mk_b (x : Int64) (i : Nat) : Bool := x.toBitVec.getLsbD i
theorem mk_ext {x y : Int64} (h : ∀ i, i < 64 → mk_b x i = mk_b y i) : x = y := Int64.toBitVec_inj.mp (BitVec.eq_of_getLsbD_eq (fun i hi => h i hi))
theorem mk_or (x y : Int64) (i : Nat) : mk_b (x ||| y) i = (mk_b x i || mk_b y i) := by unfold mk_b; rw [Int64.toBitVec_or, BitVec.getLsbD_or]
theorem mk_and (x y : Int64) (i : Nat) : mk_b (x &&& y) i = (mk_b x i && mk_b y i) := by unfold mk_b; rw [Int64.toBitVec_and, BitVec.getLsbD_and]
theorem mk_xor (x y : Int64) (i : Nat) : mk_b (x ^^^ y) i = (mk_b x i ^^ mk_b y i) := by unfold mk_b; rw [Int64.toBitVec_xor, BitVec.getLsbD_xor]
theorem mk_big {x : Int64} {i : Nat} (h : 64 ≤ i) : mk_b x i = false := BitVec.getLsbD_of_ge _ _ h
theorem mk_0 (i : Nat) : mk_b 0 i = false := BitVec.getLsbD_zero
theorem mk_m1 : ∀ i, i < 64 → mk_b (-1) i = true := by decide +kernel
theorem mk_not (x : Int64) {i : Nat} (h : i < 64) : mk_b (x ^^^ (-1)) i = !mk_b x i := by rw [mk_xor, mk_m1 i h]; cases mk_b x i <;> rfl
theorem mk_su : ∀ n, n < 64 → (((nI n).toInt64.toUInt64 &&& Int64.toUInt64 63).toBitVec % 64).toNat = n := by decide +kernel
theorem mk_ushr (n : Nat) (hn : n < 64) (x : Int64) (i : Nat) : mk_b ((x.toUInt64 >>> ((nI n).toInt64.toUInt64 &&& Int64.toUInt64 63)).toInt64) i = mk_b x (n + i) := by
  show (x.toUInt64 >>> ((nI n).toInt64.toUInt64 &&& Int64.toUInt64 63)).toBitVec.getLsbD i = x.toUInt64.toBitVec.getLsbD (n + i)
  rw [UInt64.toBitVec_shiftRight]
  show (x.toUInt64.toBitVec >>> (((nI n).toInt64.toUInt64 &&& Int64.toUInt64 63).toBitVec % 64).toNat).getLsbD i = _
  rw [mk_su n hn, BitVec.getLsbD_ushiftRight]
theorem mk_o1 : ∀ i, i < 64 → mk_b 1 i = decide (i = 0) := by decide +kernel
theorem mk_bit (x : Int64) {n : Nat} (hn : n < 64) : ((x.toUInt64 >>> ((nI n).toInt64.toUInt64 &&& Int64.toUInt64 63)).toInt64 &&& 1) = if mk_b x n = true then 1 else 0 := by
  apply mk_ext
  intro i hi
  rw [mk_and, mk_ushr n hn, mk_o1 i hi]
  by_cases h0 : i = 0
  · subst h0
    rw [Nat.add_zero]
    cases hb : mk_b x n
    · rw [if_neg (by decide), mk_0]; rfl
    · rw [if_pos rfl, mk_o1 0 (by omega)]; rfl
  · rw [decide_eq_false h0, Bool.and_false]
    split
    · rw [mk_o1 i hi, decide_eq_false h0]
    · rw [mk_0]
theorem mk_sh1 : ∀ k, k < 64 → ∀ i, i < 64 → mk_b ((1 : Int64) <<< ((nI k).toInt64 &&& 63)) i = decide (i = k) := by decide +kernel
theorem mk_lN : ∀ s, s < 64 → ∀ i, i < 64 → mk_b (nI s).toInt64 i = s.testBit i := by decide +kernel
/-! sets as small numbers -/
theorem st_and (a b : Nat) : nI a &&& nI b = nI (a &&& b) := by
  apply Int32.toBitVec_inj.1
  show BitVec.ofNat 32 a &&& BitVec.ofNat 32 b = BitVec.ofNat 32 (a &&& b)
  apply BitVec.eq_of_getLsbD_eq
  intro i hi
  simp [hi]
theorem st_or (a b : Nat) : nI a ||| nI b = nI (a ||| b) := by
  apply Int32.toBitVec_inj.1
  show BitVec.ofNat 32 a ||| BitVec.ofNat 32 b = BitVec.ofNat 32 (a ||| b)
  apply BitVec.eq_of_getLsbD_eq
  intro i hi
  simp [hi]
theorem st_xor (a b : Nat) : nI a ^^^ nI b = nI (a ^^^ b) := by
  apply Int32.toBitVec_inj.1
  show BitVec.ofNat 32 a ^^^ BitVec.ofNat 32 b = BitVec.ofNat 32 (a ^^^ b)
  apply BitVec.eq_of_getLsbD_eq
  intro i hi
  simp [hi]
theorem st_and_le (a b : Nat) : a &&& b ≤ a := Nat.and_le_left
theorem st_or_lt {a b : Nat} (ha : a < 64) (hb : b < 64) : a ||| b < 64 := Nat.or_lt_two_pow (n := 6) ha hb
theorem st_pc : ∀ s, s < 64 → cn_c (mk_b (nI s).toInt64) 64 = ed_pc s := by decide +kernel
/-- the place of a set among those of its degree -/
def st_pl (s : Nat) : Nat := cn_c (fun x => decide (1 ≤ x) && decide (ed_pc x = ed_pc s)) s
theorem st_pl_lt : ∀ s, s < 64 → st_pl s < 20 := by decide +kernel
/-- the set of k vertices at place i, or 64 -/
def st_us (k i : Nat) : Nat := cn_sel (fun x => decide (1 ≤ x) && decide (ed_pc x = k)) i 64 64
theorem st_us_pl {s : Nat} (h1 : 1 ≤ s) (h : s < 64) : st_us (ed_pc s) (st_pl s) = s :=
  cn_sel_at h (by simp [h1]) rfl
theorem st_us_ok {k i : Nat} (h : st_us k i < 64) : 1 ≤ st_us k i ∧ ed_pc (st_us k i) = k ∧ st_pl (st_us k i) = i := by
  by_cases hc : i < cn_c (fun x => decide (1 ≤ x) && decide (ed_pc x = k)) 64
  · have := cn_sel_ok (d := 64) hc
    have e : cn_sel (fun x => decide (1 ≤ x) && decide (ed_pc x = k)) i 64 64 = st_us k i := rfl
    rw [e] at this
    obtain ⟨a, b, _⟩ := this
    rw [Bool.and_eq_true, decide_eq_true_iff, decide_eq_true_iff] at a
    refine ⟨a.1, a.2, ?_⟩
    unfold st_pl
    rw [a.2]
    exact b
  · have : st_us k i = 64 := cn_sel_no (by omega)
    omega
