-- Part 02: Counts, and the number of ones of a word.
/-- how many q below i have p -/
def sq_c (p : Nat → Bool) : Nat → Nat
  | 0 => 0
  | i + 1 => sq_c p i + (if p i = true then 1 else 0)
theorem sq_c0 (p : Nat → Bool) : sq_c p 0 = 0 := rfl
theorem sq_cs (p : Nat → Bool) (i : Nat) : sq_c p (i + 1) = sq_c p i + (if p i = true then 1 else 0) := rfl
theorem sq_ct {p : Nat → Bool} {i : Nat} (h : p i = true) : sq_c p (i + 1) = sq_c p i + 1 := by rw [sq_cs, if_pos h]
theorem sq_cf {p : Nat → Bool} {i : Nat} (h : p i = false) : sq_c p (i + 1) = sq_c p i := by rw [sq_cs, h]; rfl
theorem sq_cle (p : Nat → Bool) : ∀ i, sq_c p i ≤ i := by
  intro i
  induction i with
  | zero => exact Nat.le_refl _
  | succ i ih => rw [sq_cs]; split <;> omega
theorem sq_ccg {p q : Nat → Bool} : ∀ i, (∀ j, j < i → p j = q j) → sq_c p i = sq_c q i := by
  intro i
  induction i with
  | zero => intro _; rfl
  | succ i ih =>
    intro h
    rw [sq_cs, sq_cs, ih (fun j hj => h j (by omega)), h i (by omega)]
theorem sq_cadd (p : Nat → Bool) (a : Nat) : ∀ b, sq_c p (a + b) = sq_c p a + sq_c (fun q => p (a + q)) b := by
  intro b
  induction b with
  | zero => rfl
  | succ b ih => rw [← Nat.add_assoc, sq_cs, sq_cs, ih]; omega
theorem sq_cmono (p : Nat → Bool) {a b : Nat} (h : a ≤ b) : sq_c p a ≤ sq_c p b := by
  have := sq_cadd p a (b - a)
  rw [show a + (b - a) = b by omega] at this
  omega
theorem sq_cbd (p : Nat → Bool) {a b : Nat} (h : a ≤ b) : sq_c p b ≤ sq_c p a + (b - a) := by
  have := sq_cadd p a (b - a)
  rw [show a + (b - a) = b by omega] at this
  have := sq_cle (fun q => p (a + q)) (b - a)
  omega
theorem sq_cnone {p : Nat → Bool} : ∀ i, (∀ j, j < i → p j = false) → sq_c p i = 0 := by
  intro i
  induction i with
  | zero => intro _; rfl
  | succ i ih =>
    intro h
    rw [sq_cf (h i (by omega)), ih (fun j hj => h j (by omega))]
theorem sq_call {p : Nat → Bool} : ∀ i, (∀ j, j < i → p j = true) → sq_c p i = i := by
  intro i
  induction i with
  | zero => intro _; rfl
  | succ i ih =>
    intro h
    rw [sq_ct (h i (by omega)), ih (fun j hj => h j (by omega))]
theorem sq_cspl (p b : Nat → Bool) : ∀ i, sq_c p i = sq_c (fun q => p q && b q) i + sq_c (fun q => p q && !b q) i := by
  intro i
  induction i with
  | zero => rfl
  | succ i ih =>
    rw [sq_cs, sq_cs, sq_cs, ih]
    show _ + (if p i = true then 1 else 0) = _ + (if (p i && b i) = true then 1 else 0) + (_ + (if (p i && !b i) = true then 1 else 0))
    cases p i <;> cases b i <;> simp <;> omega
theorem sq_cnot (p : Nat → Bool) : ∀ i, sq_c p i + sq_c (fun q => !p q) i = i := by
  intro i
  induction i with
  | zero => rfl
  | succ i ih =>
    rw [sq_cs, sq_cs]
    show _ + (if p i = true then 1 else 0) + (_ + (if (!p i) = true then 1 else 0)) = _
    cases p i <;> simp <;> omega
theorem sq_csub {p q : Nat → Bool} (h : ∀ j, p j = true → q j = true) : ∀ i, sq_c p i ≤ sq_c q i := by
  intro i
  induction i with
  | zero => exact Nat.le_refl _
  | succ i ih =>
    rw [sq_cs, sq_cs]
    cases e : p i with
    | false => rw [if_neg (by decide)]; omega
    | true => rw [h i e, if_pos rfl]; omega
theorem sq_clt {p : Nat → Bool} {j i : Nat} (hj : j < i) (h : p j = true) : sq_c p j < sq_c p i := by
  have := sq_cmono p (show j + 1 ≤ i by omega)
  rw [sq_ct h] at this
  omega

-- ---- the number of ones of a word, byte by byte ----
theorem sq_and256 {a b c d : Nat} (hb : b < 256) (hd : d < 256) : (256 * a + b) &&& (256 * c + d) = 256 * (a &&& c) + (b &&& d) := by
  have h1 : ((256 * a + b) &&& (256 * c + d)) / 2 ^ 8 = a &&& c := by
    rw [Nat.and_div_two_pow, show (256 * a + b) / 2 ^ 8 = a by omega, show (256 * c + d) / 2 ^ 8 = c by omega]
  have h2 : ((256 * a + b) &&& (256 * c + d)) % 2 ^ 8 = b &&& d := by
    rw [Nat.and_mod_two_pow, show (256 * a + b) % 2 ^ 8 = b by omega, show (256 * c + d) % 2 ^ 8 = d by omega]
  generalize ((256 * a + b) &&& (256 * c + d)) = z at h1 h2
  generalize a &&& c = u at h1 ⊢
  generalize b &&& d = v at h2 ⊢
  omega
/-- the byte c, k times -/
def sq_bm (c : Nat) : Nat → Nat
  | 0 => 0
  | k + 1 => 256 * sq_bm c k + c
/-- the k low bytes of x, each by f -/
def sq_by (f : Nat → Nat) (x : Nat) : Nat → Nat
  | 0 => 0
  | k + 1 => 256 * sq_by f (x / 256) k + f (x % 256)
def sq_f1 (b : Nat) : Nat := b - (b / 2 &&& 85)
def sq_f2 (b : Nat) : Nat := (sq_f1 b &&& 51) + (sq_f1 b / 4 &&& 51)
def sq_f3 (b : Nat) : Nat := (sq_f2 b + sq_f2 b / 16) &&& 15
theorem sq_t1 : ∀ y, y < 2 → ∀ b, b < 256 → (128 * y + b / 2) &&& 85 = b / 2 &&& 85 := by decide +kernel
theorem sq_t1b : ∀ b, b < 256 → sq_f1 b < 256 ∧ sq_f2 b % 16 ≤ 4 ∧ sq_f2 b < 80 ∧ sq_f3 b ≤ 8 := by decide +kernel
theorem sq_t2 : ∀ y, y < 4 → ∀ b, b < 256 → (64 * y + b / 4) &&& 51 = b / 4 &&& 51 := by decide +kernel
theorem sq_t3 : ∀ y, y < 5 → ∀ b, b < 80 → (16 * y + (b + b / 16)) &&& 15 = (b + b / 16) &&& 15 := by decide +kernel
theorem sq_pb1 : ∀ k x, x < 256 ^ k → x - (x / 2 &&& sq_bm 85 k) = sq_by sq_f1 x k := by
  intro k
  induction k with
  | zero =>
    intro x hx
    show x - (x / 2 &&& 0) = 0
    rw [Nat.pow_zero] at hx
    omega
  | succ k ih =>
    intro x hx
    show x - (x / 2 &&& (256 * sq_bm 85 k + 85)) = 256 * sq_by sq_f1 (x / 256) k + sq_f1 (x % 256)
    have hq : x / 256 < 256 ^ k := by rw [Nat.pow_succ] at hx; omega
    rw [← ih (x / 256) hq]
    have e : x / 2 = 256 * (x / 256 / 2) + (128 * (x / 256 % 2) + x % 256 / 2) := by omega
    have hb : 128 * (x / 256 % 2) + x % 256 / 2 < 256 := by omega
    rw [e, sq_and256 hb (by decide), sq_t1 _ (by omega) _ (by omega)]
    have l1 : (x / 256 / 2 &&& sq_bm 85 k) ≤ x / 256 / 2 := Nat.and_le_left
    have l2 : (x % 256 / 2 &&& 85) ≤ x % 256 / 2 := Nat.and_le_left
    show _ = 256 * (x / 256 - (x / 256 / 2 &&& sq_bm 85 k)) + (x % 256 - (x % 256 / 2 &&& 85))
    generalize (x / 256 / 2 &&& sq_bm 85 k) = u at l1 ⊢
    generalize (x % 256 / 2 &&& 85) = v at l2 ⊢
    omega
theorem sq_pb2 : ∀ k x, (sq_by sq_f1 x k &&& sq_bm 51 k) + (sq_by sq_f1 x k / 4 &&& sq_bm 51 k) = sq_by sq_f2 x k := by
  intro k
  induction k with
  | zero => intro x; show (0 &&& 0) + (0 / 4 &&& 0) = 0; decide
  | succ k ih =>
    intro x
    show ((256 * sq_by sq_f1 (x / 256) k + sq_f1 (x % 256)) &&& (256 * sq_bm 51 k + 51)) + ((256 * sq_by sq_f1 (x / 256) k + sq_f1 (x % 256)) / 4 &&& (256 * sq_bm 51 k + 51)) = 256 * sq_by sq_f2 (x / 256) k + sq_f2 (x % 256)
    rw [← ih (x / 256)]
    have hf := (sq_t1b (x % 256) (by omega)).1
    show _ = _ + ((sq_f1 (x % 256) &&& 51) + (sq_f1 (x % 256) / 4 &&& 51))
    generalize sq_f1 (x % 256) = b at hf ⊢
    generalize sq_by sq_f1 (x / 256) k = y
    have e : (256 * y + b) / 4 = 256 * (y / 4) + (64 * (y % 4) + b / 4) := by omega
    rw [e, sq_and256 hf (by decide), sq_and256 (by omega) (by decide), sq_t2 _ (by omega) _ hf]
    omega
theorem sq_by16 (x : Nat) : ∀ k, sq_by sq_f2 x k % 16 ≤ 4 := by
  intro k
  cases k with
  | zero => exact Nat.zero_le _
  | succ k =>
    show (256 * sq_by sq_f2 (x / 256) k + sq_f2 (x % 256)) % 16 ≤ 4
    have := (sq_t1b (x % 256) (by omega)).2.1
    omega
theorem sq_pb3 : ∀ k x, ((sq_by sq_f2 x k + sq_by sq_f2 x k / 16) &&& sq_bm 15 k) = sq_by sq_f3 x k := by
  intro k
  induction k with
  | zero => intro x; show ((0 + 0 / 16) &&& 0) = 0; decide
  | succ k ih =>
    intro x
    show ((256 * sq_by sq_f2 (x / 256) k + sq_f2 (x % 256)) + (256 * sq_by sq_f2 (x / 256) k + sq_f2 (x % 256)) / 16 &&& (256 * sq_bm 15 k + 15)) = 256 * sq_by sq_f3 (x / 256) k + sq_f3 (x % 256)
    rw [← ih (x / 256)]
    have hf := (sq_t1b (x % 256) (by omega)).2.2.1
    have hy := sq_by16 (x / 256) k
    show _ = _ + ((sq_f2 (x % 256) + sq_f2 (x % 256) / 16) &&& 15)
    generalize sq_f2 (x % 256) = b at hf ⊢
    generalize sq_by sq_f2 (x / 256) k = y at hy ⊢
    have e : (256 * y + b) + (256 * y + b) / 16 = 256 * (y + y / 16) + (16 * (y % 16) + (b + b / 16)) := by omega
    rw [e, sq_and256 (by omega) (by decide), sq_t3 _ (by omega) _ hf]
/-- the sum of the k low bytes of x, each by f -/
def sq_sm (f : Nat → Nat) (x : Nat) : Nat → Nat
  | 0 => 0
  | k + 1 => sq_sm f (x / 256) k + f (x % 256)
theorem sq_t4 : ∀ b, b < 256 → sq_f3 b = sq_c (fun q => b.testBit q) 8 := by decide +kernel
theorem sq_pb4 : ∀ k x, sq_sm sq_f3 x k = sq_c (fun q => x.testBit q) (8 * k) := by
  intro k
  induction k with
  | zero => intro x; rfl
  | succ k ih =>
    intro x
    show sq_sm sq_f3 (x / 256) k + sq_f3 (x % 256) = _
    rw [ih, show 8 * (k + 1) = 8 + 8 * k by omega, sq_cadd, sq_t4 _ (by omega)]
    have e1 : sq_c (fun q => (x % 256).testBit q) 8 = sq_c (fun q => x.testBit q) 8 := sq_ccg 8 (fun j hj => by
      show (x % 2 ^ 8).testBit j = x.testBit j
      rw [Nat.testBit_mod_two_pow]; simp [hj])
    have e2 : sq_c (fun q => (x / 256).testBit q) (8 * k) = sq_c (fun q => x.testBit (8 + q)) (8 * k) := sq_ccg _ (fun j _ => by
      show (x / 2 ^ 8).testBit j = x.testBit (8 + j)
      rw [Nat.testBit_div_two_pow, Nat.add_comm])
    rw [e1, e2]
    omega
theorem sq_h8 {c0 c1 c2 c3 c4 c5 c6 c7 : Nat} (h0 : c0 ≤ 8) (h1 : c1 ≤ 8) (h2 : c2 ≤ 8) (h3 : c3 ≤ 8) (h4 : c4 ≤ 8) (h5 : c5 ≤ 8) (h6 : c6 ≤ 8) (h7 : c7 ≤ 8) :
    (c0 + 256 * (c1 + 256 * (c2 + 256 * (c3 + 256 * (c4 + 256 * (c5 + 256 * (c6 + 256 * c7))))))) * 72340172838076673 % 2 ^ 64 / 2 ^ 56 = c0 + c1 + c2 + c3 + c4 + c5 + c6 + c7 := by
  have e : (c0 + 256 * (c1 + 256 * (c2 + 256 * (c3 + 256 * (c4 + 256 * (c5 + 256 * (c6 + 256 * c7))))))) * 72340172838076673 = 18446744073709551616 * (1 * (c1 + c2 + c3 + c4 + c5 + c6 + c7) + 256 * (c2 + c3 + c4 + c5 + c6 + c7) + 65536 * (c3 + c4 + c5 + c6 + c7) + 16777216 * (c4 + c5 + c6 + c7) + 4294967296 * (c5 + c6 + c7) + 1099511627776 * (c6 + c7) + 281474976710656 * (c7)) + (72057594037927936 * (c0 + c1 + c2 + c3 + c4 + c5 + c6 + c7) + (1 * (c0) + 256 * (c0 + c1) + 65536 * (c0 + c1 + c2) + 16777216 * (c0 + c1 + c2 + c3) + 4294967296 * (c0 + c1 + c2 + c3 + c4) + 1099511627776 * (c0 + c1 + c2 + c3 + c4 + c5) + 281474976710656 * (c0 + c1 + c2 + c3 + c4 + c5 + c6))) := by omega
  have hR : 1 * (c0) + 256 * (c0 + c1) + 65536 * (c0 + c1 + c2) + 16777216 * (c0 + c1 + c2 + c3) + 4294967296 * (c0 + c1 + c2 + c3 + c4) + 1099511627776 * (c0 + c1 + c2 + c3 + c4 + c5) + 281474976710656 * (c0 + c1 + c2 + c3 + c4 + c5 + c6) < 72057594037927936 := by omega
  have hS : c0 + c1 + c2 + c3 + c4 + c5 + c6 + c7 ≤ 64 := by omega
  rw [e, show (2 : Nat) ^ 64 = 18446744073709551616 from rfl, show (2 : Nat) ^ 56 = 72057594037927936 from rfl, Nat.mul_add_mod]
  generalize 1 * (c0) + 256 * (c0 + c1) + 65536 * (c0 + c1 + c2) + 16777216 * (c0 + c1 + c2 + c3) + 4294967296 * (c0 + c1 + c2 + c3 + c4) + 1099511627776 * (c0 + c1 + c2 + c3 + c4 + c5) + 281474976710656 * (c0 + c1 + c2 + c3 + c4 + c5 + c6) = r at hR ⊢
  generalize c0 + c1 + c2 + c3 + c4 + c5 + c6 + c7 = t at hS ⊢
  omega
theorem sq_by8 (x : Nat) : ∃ c0 c1 c2 c3 c4 c5 c6 c7 : Nat, c0 ≤ 8 ∧ c1 ≤ 8 ∧ c2 ≤ 8 ∧ c3 ≤ 8 ∧ c4 ≤ 8 ∧ c5 ≤ 8 ∧ c6 ≤ 8 ∧ c7 ≤ 8 ∧
    sq_by sq_f3 x 8 = c0 + 256 * (c1 + 256 * (c2 + 256 * (c3 + 256 * (c4 + 256 * (c5 + 256 * (c6 + 256 * c7)))))) ∧
    sq_sm sq_f3 x 8 = c0 + c1 + c2 + c3 + c4 + c5 + c6 + c7 := by
  have B : ∀ y, sq_f3 (y % 256) ≤ 8 := fun y => (sq_t1b (y % 256) (by omega)).2.2.2
  refine ⟨_, _, _, _, _, _, _, _, B x, B (x / 256), B (x / 256 / 256), B (x / 256 / 256 / 256), B (x / 256 / 256 / 256 / 256), B (x / 256 / 256 / 256 / 256 / 256), B (x / 256 / 256 / 256 / 256 / 256 / 256), B (x / 256 / 256 / 256 / 256 / 256 / 256 / 256), ?_, ?_⟩
  · simp only [sq_by]; omega
  · simp only [sq_sm]; omega
theorem sq_m85 : sq_bm 85 8 = 6148914691236517205 := by decide +kernel
theorem sq_m51 : sq_bm 51 8 = 3689348814741910323 := by decide +kernel
theorem sq_m15 : sq_bm 15 8 = 1085102592571150095 := by decide +kernel
/-- what onesIn reckons, over Nat -/
def sq_q1 (x : Nat) : Nat := x - (x / 2 &&& 6148914691236517205)
def sq_q2 (p : Nat) : Nat := (p &&& 3689348814741910323) + (p / 4 &&& 3689348814741910323)
def sq_q3 (f : Nat) : Nat := (f + f / 16) &&& 1085102592571150095
theorem sq_pop {x : Nat} (hx : x < 2 ^ 64) : sq_q3 (sq_q2 (sq_q1 x)) * 72340172838076673 % 2 ^ 64 / 2 ^ 56 = sq_c (fun q => x.testBit q) 64 := by
  have e1 : sq_q1 x = sq_by sq_f1 x 8 := by
    have h := sq_pb1 8 x (by omega)
    rw [sq_m85] at h
    exact h
  have e2 : sq_q2 (sq_by sq_f1 x 8) = sq_by sq_f2 x 8 := by
    have h := sq_pb2 8 x
    rw [sq_m51] at h
    exact h
  have e3 : sq_q3 (sq_by sq_f2 x 8) = sq_by sq_f3 x 8 := by
    have h := sq_pb3 8 x
    rw [sq_m15] at h
    exact h
  obtain ⟨c0, c1, c2, c3, c4, c5, c6, c7, h0, h1, h2, h3, h4, h5, h6, h7, hb, hs⟩ := sq_by8 x
  rw [e1, e2, e3, hb, sq_h8 h0 h1 h2 h3 h4 h5 h6 h7, ← hs]
  exact sq_pb4 8 x
