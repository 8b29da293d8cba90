-- Part 08: words: bits, fields, ones.
def sq_B (a : Nat → Int64) (p : Nat) : Bool := (uN (a (p / 64))).testBit (p % 64)
theorem sq_u64 (x : Int64) : uN x < 2 ^ 64 := by
  have := uN_lt x
  omega
theorem sq_uNl {n : Nat} (h : n < 2 ^ 64) : uN (lN n) = n := wb_tn h
theorem sq_lNu (x : Int64) : lN (uN x) = x := uN_inj (sq_uNl (sq_u64 x))
theorem sq_uor (x y : Int64) : uN (x ||| y) = uN x ||| uN y := UInt64.toNat_or _ _
theorem sq_uand (x y : Int64) : uN (x &&& y) = uN x &&& uN y := UInt64.toNat_and _ _
theorem sq_uxor (x y : Int64) : uN (x ^^^ y) = uN x ^^^ uN y := UInt64.toNat_xor _ _
theorem sq_mod6 {p : Nat} (hp : p < 2 ^ 31) : nI p &&& 63 = nI (p % 64) := pk_andN (by omega) 6 (by decide)
theorem sq_div6 {p : Nat} (hp : p < 2 ^ 31) : nI p >>> ((6 : Int32) &&& 31) = nI (p / 64) := pk_shrN hp _ 6 (by decide)
theorem sq_one {k : Nat} (hk : k < 64) : (1 : Int64) <<< ((nI k).toInt64 &&& 63) = lN (2 ^ k) := by
  have h := wb_shl 1 hk
  rw [Nat.one_mul] at h
  exact h
theorem sq_Bset (a : Nat → Int64) (p q : Nat) : sq_B (vp_updL a (p / 64) (a (p / 64) ||| lN (2 ^ (p % 64)))) q = (sq_B a q || decide (q = p)) := by
  unfold sq_B
  by_cases h : q / 64 = p / 64
  · rw [h, pk_uLs, sq_uor, sq_uNl (wb_lt2 (show p % 64 < 64 by omega)), Nat.testBit_or, Nat.testBit_two_pow]
    congr 1
    exact decide_eq_decide.mpr (by omega)
  · rw [pk_uLn h, decide_eq_false (by intro e; subst e; exact h rfl), Bool.or_false]
/-- a bit of a word, as bitAt reads it -/
theorem sq_bitw (x : Int64) {k : Nat} (hk : k < 64) : ((x.toUInt64 >>> ((nI k).toInt64.toUInt64 &&& Int64.toUInt64 63)).toInt64).toInt32 &&& 1 = nI ((uN x).testBit k).toNat := by
  obtain ⟨m, hm, rfl⟩ := wb_of x
  rw [wb_shr hm hk, lN_i, pk_and _ 1 (by decide), sq_uNl hm, Nat.toNat_testBit]
  have e : (nI (m / 2 ^ k)).toBitVec.toNat = m / 2 ^ k % 2 ^ 32 := rfl
  rw [e]
  congr 1
  generalize m / 2 ^ k = y
  omega
theorem sq_bitl (x : Int64) {k : Nat} (hk : k < 64) : (x.toUInt64 >>> ((nI k).toInt64.toUInt64 &&& Int64.toUInt64 63)).toInt64 &&& 1 = lN ((uN x).testBit k).toNat := by
  obtain ⟨m, hm, rfl⟩ := wb_of x
  rw [wb_bit hm hk, sq_uNl hm, Nat.toNat_testBit]
theorem sq_C5 : (6148914691236517205 : Int64) = lN 6148914691236517205 := rfl
/-- the number of ones of a word -/
def sq_pc (x : Int64) : Nat := sq_c (fun q => (uN x).testBit q) 64
theorem sq_pcle (x : Int64) : sq_pc x ≤ 64 := sq_cle _ 64
theorem sq_ones1 {m : Nat} (hm : m < 2 ^ 64) : lN m - (((lN m).toUInt64 >>> ((1 : Int32).toInt64.toUInt64 &&& Int64.toUInt64 63)).toInt64 &&& 6148914691236517205) = lN (sq_q1 m) := by
  have a : ((lN m).toUInt64 >>> ((1 : Int32).toInt64.toUInt64 &&& Int64.toUInt64 63)).toInt64 = lN (m / 2 ^ 1) := wb_shr (k := 1) hm (by decide)
  rw [a, show (6148914691236517205 : Int64) = lN 6148914691236517205 from rfl, wb_and (by omega) (by decide), Nat.pow_one]
  exact lN_sub (Nat.le_trans Nat.and_le_left (by omega))
theorem sq_ones2 {m : Nat} (hm : m < 2 ^ 64) : (lN m &&& 3689348814741910323) + (((lN m).toUInt64 >>> ((2 : Int32).toInt64.toUInt64 &&& Int64.toUInt64 63)).toInt64 &&& 3689348814741910323) = lN (sq_q2 m) := by
  have a : ((lN m).toUInt64 >>> ((2 : Int32).toInt64.toUInt64 &&& Int64.toUInt64 63)).toInt64 = lN (m / 2 ^ 2) := wb_shr (k := 2) hm (by decide)
  rw [a, show (3689348814741910323 : Int64) = lN 3689348814741910323 from rfl, wb_and hm (by decide), wb_and (by omega) (by decide), lN_add]
  rfl
theorem sq_ones3 {m : Nat} (hm : m < 2 ^ 63) : (lN m + ((lN m).toUInt64 >>> ((4 : Int32).toInt64.toUInt64 &&& Int64.toUInt64 63)).toInt64) &&& 1085102592571150095 = lN (sq_q3 m) := by
  have a : ((lN m).toUInt64 >>> ((4 : Int32).toInt64.toUInt64 &&& Int64.toUInt64 63)).toInt64 = lN (m / 2 ^ 4) := wb_shr (k := 4) (by omega) (by decide)
  rw [a, lN_add, show (1085102592571150095 : Int64) = lN 1085102592571150095 from rfl, wb_and (by omega) (by decide)]
  rfl
theorem sq_ones4 (m : Nat) : (((lN m * 72340172838076673).toUInt64 >>> ((56 : Int32).toInt64.toUInt64 &&& Int64.toUInt64 63)).toInt64).toInt32 = nI (m * 72340172838076673 % 2 ^ 64 / 2 ^ 56) := by
  rw [show (72340172838076673 : Int64) = lN 72340172838076673 from rfl, lN_mul, wb_mod]
  have a : ((lN (m * 72340172838076673 % 2 ^ 64)).toUInt64 >>> ((56 : Int32).toInt64.toUInt64 &&& Int64.toUInt64 63)).toInt64 = lN (m * 72340172838076673 % 2 ^ 64 / 2 ^ 56) := wb_shr (k := 56) (Nat.mod_lt _ (by decide)) (by decide)
  rw [a, lN_i]
/-- the ones of row words w, w + 1, .. -/
theorem sq_pcw (a : Nat → Int64) (w k : Nat) : sq_c (fun t => sq_B a (64 * w + t)) (64 * k + 64) = sq_c (fun t => sq_B a (64 * w + t)) (64 * k) + sq_pc (a (w + k)) := by
  rw [sq_cadd]
  congr 1
  refine sq_ccg 64 (fun q hq => ?_)
  show sq_B a (64 * w + (64 * k + q)) = (uN (a (w + k))).testBit q
  unfold sq_B
  rw [show (64 * w + (64 * k + q)) / 64 = w + k by omega, show (64 * w + (64 * k + q)) % 64 = q by omega]
theorem sq_pcm (x : Int64) {r : Nat} (hr : r < 64) : sq_pc (x &&& ((1 : Int64) <<< ((nI r).toInt64 &&& 63) - 1)) = sq_c (fun q => (uN x).testBit q) r := by
  have e1 : (1 : Int64) <<< ((nI r).toInt64 &&& 63) - 1 = lN (2 ^ r - 1) := by
    rw [sq_one hr]
    exact lN_sub (b := 1) (Nat.pow_pos (by decide))
  have hp := wb_lt2 hr
  unfold sq_pc
  rw [e1, sq_uand, sq_uNl (by omega), Nat.and_two_pow_sub_one_eq_mod]
  rw [show (64 : Nat) = r + (64 - r) by omega, sq_cadd]
  have z : sq_c (fun q => (uN x % 2 ^ r).testBit (r + q)) (64 - r) = 0 := sq_cnone _ (fun j _ => by
    show (uN x % 2 ^ r).testBit (r + j) = false
    rw [Nat.testBit_mod_two_pow, decide_eq_false (by omega), Bool.false_and])
  rw [z, Nat.add_zero]
  exact sq_ccg r (fun j hj => by
    show (uN x % 2 ^ r).testBit j = (uN x).testBit j
    rw [Nat.testBit_mod_two_pow, decide_eq_true hj, Bool.true_and])
theorem sq_pcr (a : Nat → Int64) (w k : Nat) {r : Nat} (hr : r ≤ 64) : sq_c (fun t => sq_B a (64 * w + t)) (64 * k + r) = sq_c (fun t => sq_B a (64 * w + t)) (64 * k) + sq_c (fun q => (uN (a (w + k))).testBit q) r := by
  rw [sq_cadd]
  congr 1
  refine sq_ccg r (fun q hq => ?_)
  show sq_B a (64 * w + (64 * k + q)) = (uN (a (w + k))).testBit q
  unfold sq_B
  rw [show (64 * w + (64 * k + q)) / 64 = w + k by omega, show (64 * w + (64 * k + q)) % 64 = q by omega]
-- ---- fields of w bits, m a word ----
def sq_F (w m : Nat) (a : Nat → Int64) (p : Nat) : Nat := uN (a (p / m)) / 2 ^ (w * (p % m)) % 2 ^ w
theorem sq_orf {x v w k j : Nat} (hv : v < 2 ^ w) (hz : x / 2 ^ (w * k) % 2 ^ w = 0) : (x ||| v * 2 ^ (w * k)) / 2 ^ (w * j) % 2 ^ w = if j = k then v else x / 2 ^ (w * j) % 2 ^ w := by
  rw [Nat.or_div_two_pow, Nat.or_mod_two_pow]
  by_cases e : j = k
  · subst e
    rw [if_pos rfl, hz, Nat.zero_or, Nat.mul_div_cancel _ (Nat.pow_pos (by decide)), Nat.mod_eq_of_lt hv]
  · rw [if_neg e]
    have z : v * 2 ^ (w * k) / 2 ^ (w * j) % 2 ^ w = 0 := by
      by_cases h : j < k
      · obtain ⟨d, rfl⟩ : ∃ d, k = j + 1 + d := ⟨k - j - 1, by omega⟩
        have e1 : v * 2 ^ (w * (j + 1 + d)) = (v * 2 ^ (w * d) * 2 ^ w) * 2 ^ (w * j) := by
          rw [Nat.mul_add, Nat.mul_add, Nat.mul_one, Nat.pow_add, Nat.pow_add]
          simp only [Nat.mul_assoc, Nat.mul_comm, Nat.mul_left_comm]
        rw [e1, Nat.mul_div_cancel _ (Nat.pow_pos (by decide)), Nat.mul_mod_left]
      · obtain ⟨d, rfl⟩ : ∃ d, j = k + 1 + d := ⟨j - k - 1, by omega⟩
        have e1 : 2 ^ (w * (k + 1 + d)) = 2 ^ (w * k) * 2 ^ (w + w * d) := by
          rw [← Nat.pow_add]
          congr 1
          rw [Nat.mul_add, Nat.mul_add, Nat.mul_one]
          omega
        rw [e1, ← Nat.div_div_eq_div_mul, Nat.mul_div_cancel _ (Nat.pow_pos (by decide)), Nat.div_eq_of_lt, Nat.zero_mod]
        exact Nat.lt_of_lt_of_le hv (Nat.pow_le_pow_right (by decide) (by omega))
    rw [z, Nat.or_zero]
theorem sq_Fput {w m : Nat} (a : Nat → Int64) {p v : Nat} (hm : 0 < m) (hw : w * m ≤ 64) (hv : v < 2 ^ w) (hz : sq_F w m a p = 0) (q : Nat) :
    sq_F w m (vp_updL a (p / m) (a (p / m) ||| lN (v * 2 ^ (w * (p % m))))) q = if q = p then v else sq_F w m a q := by
  have hk : p % m < m := Nat.mod_lt _ hm
  have b : v * 2 ^ (w * (p % m)) < 2 ^ 64 := by
    have h1 : v * 2 ^ (w * (p % m)) < 2 ^ w * 2 ^ (w * (p % m)) := Nat.mul_lt_mul_of_pos_right hv (Nat.pow_pos (by decide))
    have h2 : 2 ^ w * 2 ^ (w * (p % m)) ≤ 2 ^ 64 := by
      rw [← Nat.pow_add]
      refine Nat.pow_le_pow_right (by decide) ?_
      have h3 : w * (p % m + 1) ≤ w * m := Nat.mul_le_mul_left w hk
      rw [Nat.mul_add, Nat.mul_one] at h3
      omega
    exact Nat.lt_of_lt_of_le h1 h2
  unfold sq_F at hz ⊢
  by_cases h : q / m = p / m
  · rw [h, pk_uLs, sq_uor, sq_uNl b, sq_orf hv hz]
    by_cases e : q = p
    · rw [if_pos e, if_pos (by rw [e])]
    · rw [if_neg e, if_neg]
      intro z
      apply e
      rw [← Nat.div_add_mod q m, ← Nat.div_add_mod p m, h, z]
  · rw [pk_uLn h, if_neg (by intro e; subst e; exact h rfl)]
theorem sq_F0 {a : Nat → Int64} {w m p : Nat} (h : a (p / m) = 0) : sq_F w m a p = 0 := by
  unfold sq_F
  rw [h, show uN 0 = 0 from rfl, Nat.zero_div, Nat.zero_mod]
theorem sq_B0 {a : Nat → Int64} {p : Nat} (h : a (p / 64) = 0) : sq_B a p = false := by
  unfold sq_B
  rw [h, show uN 0 = 0 from rfl, Nat.zero_testBit]
/-- part of a word, as tripleAt, runLetterAt and runLengthAt read it -/
theorem sq_getw (x : Int64) {k b : Nat} {c : Int32} (hk : k < 64) (hb : b ≤ 31) (hc : c.toBitVec.toNat = 2 ^ b - 1) : ((x.toUInt64 >>> ((nI k).toInt64.toUInt64 &&& Int64.toUInt64 63)).toInt64).toInt32 &&& c = nI (uN x / 2 ^ k % 2 ^ b) := by
  obtain ⟨m, hm, rfl⟩ := wb_of x
  rw [wb_shr hm hk, lN_i, pk_and _ b hc, sq_uNl hm]
  have e : (nI (m / 2 ^ k)).toBitVec.toNat = m / 2 ^ k % 2 ^ 32 := rfl
  rw [e, Nat.mod_mod_of_dvd]
  exact Nat.pow_dvd_pow 2 (by omega)
theorem sq_putw {v k : Nat} (hv : v < 2 ^ 31) (hk : k < 64) : (nI v).toInt64 <<< ((nI k).toInt64 &&& 63) = lN (v * 2 ^ k) := by
  rw [nI_l hv, wb_shl v hk]
-- ---- plainRank: the fields that are equal to a letter ----
theorem sq_low : ∀ l, l < 8 → ∀ b, b < 64 → (l * 1317624576693539401).testBit b = (decide (b < 63) && l.testBit (b % 3)) := by decide +kernel
theorem sq_lowb : ∀ b, b < 64 → (1317624576693539401 : Nat).testBit b = (decide (b < 63) && decide (b % 3 = 0)) := by decide +kernel
theorem sq_not64 (x : Int64) {b : Nat} (hb : b < 64) : (uN (x ^^^ (-1))).testBit b = !(uN x).testBit b := by
  rw [sq_uxor, Nat.testBit_xor]
  have h : (uN (-1)).testBit b = true := by
    have : ∀ b, b < 64 → (uN (-1)).testBit b = true := by decide +kernel
    exact this b hb
  rw [h]
  cases (uN x).testBit b <;> rfl
theorem sq_ushr (x : Int64) {k : Nat} (hk : k < 64) (b : Nat) : (uN (x.toUInt64 >>> ((nI k).toInt64.toUInt64 &&& Int64.toUInt64 63)).toInt64).testBit b = (uN x).testBit (b + k) := by
  rw [uN_sk x hk, Nat.testBit_div_two_pow]
/-- what plainRank calls same -/
def sq_same (x : Int64) (l : Int32) : Int64 :=
  ((((x ^^^ (l.toInt64 * 1317624576693539401)) ||| ((x ^^^ (l.toInt64 * 1317624576693539401)).toUInt64 >>> ((1 : Int32).toInt64.toUInt64 &&& Int64.toUInt64 63)).toInt64) ||| ((x ^^^ (l.toInt64 * 1317624576693539401)).toUInt64 >>> ((2 : Int32).toInt64.toUInt64 &&& Int64.toUInt64 63)).toInt64) ^^^ (-1)) &&& 1317624576693539401
theorem sq_t3b (x l : Nat) (hl : l < 8) (j : Nat) : (x / 2 ^ (3 * j) % 2 ^ 3 = l) ↔ (x.testBit (3 * j) = l.testBit 0 ∧ x.testBit (3 * j + 1) = l.testBit 1 ∧ x.testBit (3 * j + 2) = l.testBit 2) := by
  have e0 : x.testBit (3 * j) = (x / 2 ^ (3 * j) % 2 ^ 3).testBit 0 := by
    rw [Nat.testBit_mod_two_pow, Nat.testBit_div_two_pow]; simp
  have e1 : x.testBit (3 * j + 1) = (x / 2 ^ (3 * j) % 2 ^ 3).testBit 1 := by
    rw [Nat.testBit_mod_two_pow, Nat.testBit_div_two_pow, Nat.add_comm 1]; simp
  have e2 : x.testBit (3 * j + 2) = (x / 2 ^ (3 * j) % 2 ^ 3).testBit 2 := by
    rw [Nat.testBit_mod_two_pow, Nat.testBit_div_two_pow, Nat.add_comm 2]; simp
  rw [e0, e1, e2]
  have hy : x / 2 ^ (3 * j) % 2 ^ 3 < 8 := Nat.mod_lt _ (by decide)
  generalize x / 2 ^ (3 * j) % 2 ^ 3 = y at hy ⊢
  have : ∀ y, y < 8 → ∀ l, l < 8 → ((y = l) ↔ (y.testBit 0 = l.testBit 0 ∧ y.testBit 1 = l.testBit 1 ∧ y.testBit 2 = l.testBit 2)) := by decide +kernel
  exact this y hy l hl
theorem sq_b6t : ∀ d e f : Bool, (!((d ^^ (true && d)) || (e ^^ (true && e)) || (f ^^ (true && f))) && (true && true)) = (true && true && true) := by decide
theorem sq_b6f : ∀ a b c d e f : Bool, ¬ (a = d ∧ b = e ∧ c = f) → (!((a ^^ (true && d)) || (b ^^ (true && e)) || (c ^^ (true && f))) && (true && true)) = (true && true && false) := by decide
theorem sq_sameb (x : Int64) {l : Nat} (hl : l < 8) {b : Nat} (hb : b < 64) : (uN (sq_same x (nI l))).testBit b = (decide (b < 63) && decide (b % 3 = 0) && decide (uN x / 2 ^ (3 * (b / 3)) % 2 ^ 3 = l)) := by
  have hm : (nI l).toInt64 * 1317624576693539401 = lN (l * 1317624576693539401) := by
    rw [nI_l (by omega), show (1317624576693539401 : Int64) = lN 1317624576693539401 from rfl, lN_mul]
  have hd : ∀ c, c < 64 → (uN (x ^^^ (nI l).toInt64 * 1317624576693539401)).testBit c = ((uN x).testBit c ^^ (decide (c < 63) && l.testBit (c % 3))) := by
    intro c hc
    rw [hm, sq_uxor, Nat.testBit_xor, sq_uNl (by omega), sq_low l hl c hc]
  unfold sq_same
  rw [sq_uand, Nat.testBit_and, sq_not64 _ hb, sq_uor, Nat.testBit_or, sq_uor, Nat.testBit_or]
  have s1 := sq_ushr (x ^^^ (nI l).toInt64 * 1317624576693539401) (k := 1) (by decide) b
  have s2 := sq_ushr (x ^^^ (nI l).toInt64 * 1317624576693539401) (k := 2) (by decide) b
  have s1' : (uN ((x ^^^ (nI l).toInt64 * 1317624576693539401).toUInt64 >>> ((1 : Int32).toInt64.toUInt64 &&& Int64.toUInt64 63)).toInt64).testBit b = _ := s1
  have s2' : (uN ((x ^^^ (nI l).toInt64 * 1317624576693539401).toUInt64 >>> ((2 : Int32).toInt64.toUInt64 &&& Int64.toUInt64 63)).toInt64).testBit b = _ := s2
  rw [s1', s2', show uN 1317624576693539401 = 1317624576693539401 from rfl, sq_lowb b hb]
  by_cases h : b < 63 ∧ b % 3 = 0
  · obtain ⟨h1, h2⟩ := h
    rw [hd b hb, hd (b + 1) (by omega), hd (b + 2) (by omega), decide_eq_true h1, decide_eq_true (show b + 1 < 63 by omega), decide_eq_true (show b + 2 < 63 by omega), decide_eq_true h2,
      show b % 3 = 0 from h2, show (b + 1) % 3 = 1 by omega, show (b + 2) % 3 = 2 by omega]
    have t := sq_t3b (uN x) l hl (b / 3)
    rw [show 3 * (b / 3) = b by omega] at t
    rw [show 3 * (b / 3) = b by omega]
    by_cases hq : uN x / 2 ^ b % 2 ^ 3 = l
    · obtain ⟨t0, t1, t2⟩ := t.mp hq
      rw [decide_eq_true hq, t0, t1, t2]
      exact sq_b6t _ _ _
    · rw [decide_eq_false hq]
      exact sq_b6f _ _ _ _ _ _ (fun z => hq (t.mpr z))
  · have : (decide (b < 63) && decide (b % 3 = 0)) = false := by
      rw [← Bool.decide_and]
      exact decide_eq_false h
    rw [this, Bool.and_false, Bool.false_and]
theorem sq_c3 (p : Nat → Bool) : ∀ k, sq_c (fun b => decide (b % 3 = 0) && p (b / 3)) (3 * k) = sq_c p k := by
  intro k
  induction k with
  | zero => rfl
  | succ k ih =>
    rw [show 3 * (k + 1) = 3 * k + 1 + 1 + 1 by omega, sq_cf, sq_cf, sq_cs, sq_cs, ih]
    · show _ + (if (decide (3 * k % 3 = 0) && p (3 * k / 3)) = true then 1 else 0) = _
      rw [show 3 * k % 3 = 0 by omega, show 3 * k / 3 = k by omega, decide_eq_true rfl, Bool.true_and]
    · show (decide ((3 * k + 1) % 3 = 0) && _) = false
      rw [decide_eq_false (by omega), Bool.false_and]
    · show (decide ((3 * k + 1 + 1) % 3 = 0) && _) = false
      rw [decide_eq_false (by omega), Bool.false_and]
theorem sq_samec (x : Int64) {l : Nat} (hl : l < 8) {f : Nat} (hf : f ≤ 21) : sq_c (fun q => (uN (sq_same x (nI l))).testBit q) (3 * f) = sq_c (fun j => decide (uN x / 2 ^ (3 * j) % 2 ^ 3 = l)) f := by
  rw [← sq_c3 (fun j => decide (uN x / 2 ^ (3 * j) % 2 ^ 3 = l)) f]
  exact sq_ccg (3 * f) (fun b hb => by
    show (uN (sq_same x (nI l))).testBit b = (decide (b % 3 = 0) && decide (uN x / 2 ^ (3 * (b / 3)) % 2 ^ 3 = l))
    rw [sq_sameb x hl (by omega), decide_eq_true (show b < 63 by omega), Bool.true_and])
theorem sq_same64 (x : Int64) {l : Nat} (hl : l < 8) : sq_pc (sq_same x (nI l)) = sq_c (fun j => decide (uN x / 2 ^ (3 * j) % 2 ^ 3 = l)) 21 := by
  rw [← sq_samec x hl (Nat.le_refl 21)]
  exact sq_cf (by
    show (uN (sq_same x (nI l))).testBit 63 = false
    rw [sq_sameb x hl (by omega)]
    rfl)
