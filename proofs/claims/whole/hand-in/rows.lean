section
-- Part 01: rows of kit/rows (pasted): stores, nI and lN arithmetic, loops, words
theorem pk_us {f : Nat → Int32} {k : Nat} {x : Int32} : upd f k x k = x := if_pos rfl
theorem pk_un {f : Nat → Int32} {k j : Nat} {x : Int32} (h : j ≠ k) : upd f k x j = f j := if_neg h
theorem pk_uLs {f : Nat → Int64} {k : Nat} {x : Int64} : vp_updL f k x k = x := if_pos rfl
theorem pk_uLn {f : Nat → Int64} {k j : Nat} {x : Int64} (h : j ≠ k) : vp_updL f k x j = f j := if_neg h
theorem pk_sub {a b : Nat} (h : b ≤ a) : nI a - nI b = nI (a - b) := by
  obtain ⟨c, rfl⟩ : ∃ c, a = c + b := ⟨a - b, by omega⟩
  rw [← nI_add, Int32.add_sub_cancel, Nat.add_sub_cancel]
theorem pk_m1 (n : Nat) : nI (n + 1) + (-1) = nI n := by
  rw [← nI_1, Int32.add_assoc, show (1 : Int32) + (-1) = 0 from rfl, Int32.add_zero]
theorem pk_mul (a b : Nat) : nI a * nI b = nI (a * b) := (Int32.ofNat_mul a b).symm
theorem pk_div {a d : Nat} (ha : a < 2 ^ 31) (h0 : 0 < d) (hd : d < 2 ^ 31) : nI a / nI d = nI (a / d) := by
  apply Int32.toInt_inj.mp
  rw [lg_idiv_nonneg (by rw [nI_toInt ha]; omega) (by rw [nI_toInt hd]; omega), nI_toInt ha, nI_toInt hd, nI_toInt (Nat.lt_of_le_of_lt (Nat.div_le_self a d) ha)]
  first | rfl | exact (Int.natCast_ediv _ _).symm
theorem pk_rem {a d : Nat} (ha : a < 2 ^ 31) (h0 : 0 < d) (hd : d < 2 ^ 31) : nI a - nI a / nI d * nI d = nI (a % d) := by
  rw [pk_div ha h0 hd, pk_mul, pk_sub (Nat.div_mul_le_self a d)]
  exact congrArg nI (by have := Nat.div_add_mod' a d; omega)
theorem pk_sub_toInt {a b : Nat} (ha : a < 2 ^ 30) (hb : b < 2 ^ 30) : (nI a - nI b).toInt = (a : Int) - b := by
  rw [Int32.toInt_sub, nI_toInt (by omega), nI_toInt (by omega)]
  exact Int.bmod_eq_of_le (by omega) (by omega)
theorem pk_sneg {a b : Nat} (hb : b < 2 ^ 30) (h : a < b) : nI a - nI b < 0 := by
  rw [Int32.lt_iff_toInt_lt, pk_sub_toInt (by omega) hb, show (0 : Int32).toInt = 0 from by decide]
  omega
theorem pk_ix (x : Int32) {n : Nat} (hn : n < 2 ^ 31) : x < 0 ∨ nI n ≤ x ∨ ∃ j : Nat, j < n ∧ x = nI j := by
  by_cases h : x < 0
  · exact Or.inl h
  · obtain ⟨j, hj, rfl⟩ := nI_of h
    by_cases h2 : j < n
    · exact Or.inr (Or.inr ⟨j, h2, rfl⟩)
    · exact Or.inr (Or.inl (nI_le (by omega) hj))
theorem pk_le {x y : Int32} {A B : Prop} (a b : Nat) (f : a ≤ b → A) (g : b < a → B) (hx : x = nI a := by rfl) (hy : y = nI b := by rfl) (ha : a < 2 ^ 31 := by omega) (hb : b < 2 ^ 31 := by omega) : (x ≤ y → A) ∧ (¬ x ≤ y → B) := by
  subst hx hy
  rw [nI_leI ha hb]
  exact ⟨f, fun z => g (by omega)⟩
theorem pk_lt {x y : Int32} {A B : Prop} (a b : Nat) (f : a < b → A) (g : b ≤ a → B) (hx : x = nI a := by rfl) (hy : y = nI b := by rfl) (ha : a < 2 ^ 31 := by omega) (hb : b < 2 ^ 31 := by omega) : (x < y → A) ∧ (¬ x < y → B) := by
  subst hx hy
  rw [nI_ltI ha hb]
  exact ⟨f, fun z => g (by omega)⟩
theorem pk_eq {x y : Int32} {A B : Prop} (a b : Nat) (f : a = b → A) (g : a ≠ b → B) (hx : x = nI a := by rfl) (hy : y = nI b := by rfl) (ha : a < 2 ^ 31 := by omega) (hb : b < 2 ^ 31 := by omega) : (x = y → A) ∧ (¬ x = y → B) := by
  subst hx hy
  rw [nI_eq ha hb]
  exact ⟨f, g⟩
theorem pk_in {x : Int32} (n N : Nat) (h : n < N) (hx : x = nI n := by rfl) (hN : N < 2 ^ 31 := by omega) : vp_in x N := by
  subst hx
  exact vp_in_nI h hN
theorem pk_cl {x : Int32} (n : Nat) (hx : x = nI n := by rfl) (h : n < 2 ^ 31 := by omega) : x.toNatClampNeg = n := by
  subst hx
  exact nI_clamp h
theorem pk_tn {n : Nat} (h : n < 2 ^ 32) : (nI n).toBitVec.toNat = n := Nat.mod_eq_of_lt h
theorem pk_and (x : Int32) {m : Int32} (k : Nat) (hm : m.toBitVec.toNat = 2 ^ k - 1) : x &&& m = nI (x.toBitVec.toNat % 2 ^ k) := by
  apply Int32.toBitVec_inj.mp
  apply BitVec.eq_of_toNat_eq
  rw [Int32.toBitVec_and, BitVec.toNat_and, hm, Nat.and_two_pow_sub_one_eq_mod]
  show _ = (BitVec.ofNat 32 _).toNat
  rw [BitVec.toNat_ofNat]
  exact (Nat.mod_eq_of_lt (Nat.lt_of_le_of_lt (Nat.mod_le _ _) x.toBitVec.isLt)).symm
theorem pk_andN {n : Nat} (h : n < 2 ^ 32) {m : Int32} (k : Nat) (hm : m.toBitVec.toNat = 2 ^ k - 1) : nI n &&& m = nI (n % 2 ^ k) := by
  rw [pk_and _ k hm, pk_tn h]
theorem pk_andE (x : Int32) {m : Int32} (k : Nat) (hm : m.toBitVec.toNat = 2 ^ k - 1) : ∃ j : Nat, j < 2 ^ k ∧ x &&& m = nI j := ⟨_, Nat.mod_lt _ (Nat.two_pow_pos k), pk_and x k hm⟩
theorem pk_andIn (x : Int32) {m : Int32} (k : Nat) (hm : m.toBitVec.toNat = 2 ^ k - 1) (hk : k ≤ 30) : vp_in (x &&& m) (2 ^ k) := by
  obtain ⟨j, hj, e⟩ := pk_andE x k hm
  rw [e]
  exact vp_in_nI hj (Nat.lt_of_le_of_lt (Nat.pow_le_pow_right (by decide) hk) (by decide))
theorem pk_shl (a s : Int32) (k : Nat) (hs : (s.toBitVec.smod 32).toNat = k) : (a <<< s).toBitVec.toNat = a.toBitVec.toNat * 2 ^ k % 2 ^ 32 := by
  show (a.toBitVec <<< (s.toBitVec.smod 32).toNat).toNat = _
  rw [hs, BitVec.toNat_shiftLeft, Nat.shiftLeft_eq]
theorem pk_shlN {n : Nat} (s : Int32) (k : Nat) (hs : (s.toBitVec.smod 32).toNat = k) (h : n * 2 ^ k < 2 ^ 32) : nI n <<< s = nI (n * 2 ^ k) := by
  apply Int32.toBitVec_inj.mp
  apply BitVec.eq_of_toNat_eq
  have hn : n < 2 ^ 32 := Nat.lt_of_le_of_lt (Nat.le_mul_of_pos_right n (Nat.two_pow_pos k)) h
  rw [pk_shl _ _ k hs, pk_tn hn, pk_tn h, Nat.mod_eq_of_lt h]
theorem pk_shr (a s : Int32) (k : Nat) (hs : (s.toBitVec.smod 32).toNat = k) : (a >>> s).toInt = a.toInt >>> k := by
  show (a.toBitVec.sshiftRight (s.toBitVec.smod 32).toNat).toInt = _
  rw [hs, BitVec.toInt_sshiftRight]
  rfl
theorem pk_shrN {n : Nat} (h : n < 2 ^ 31) (s : Int32) (k : Nat) (hs : (s.toBitVec.smod 32).toNat = k) : nI n >>> s = nI (n / 2 ^ k) := by
  apply Int32.toInt_inj.mp
  have h2 : n / 2 ^ k ≤ n := Nat.div_le_self _ _
  rw [pk_shr _ _ k hs, nI_toInt h, nI_toInt (by omega), Int.shiftRight_eq_div_pow]
  rfl
theorem pk_ushr (x s : Int32) (k : Nat) (hs : ((s.toUInt32 &&& Int32.toUInt32 31).toBitVec % 32).toNat = k) : (x.toUInt32 >>> (s.toUInt32 &&& Int32.toUInt32 31)).toInt32.toBitVec.toNat = x.toBitVec.toNat / 2 ^ k := by
  have e : (x.toUInt32 >>> (s.toUInt32 &&& Int32.toUInt32 31)).toInt32.toBitVec = x.toBitVec >>> k := by
    rw [← hs]
    exact UInt32.toBitVec_shiftRight _ _
  rw [e, BitVec.toNat_ushiftRight, Nat.shiftRight_eq_div_pow]
theorem pk_ushrN {n : Nat} (hn : n < 2 ^ 32) (s : Int32) (k : Nat) (hs : ((s.toUInt32 &&& Int32.toUInt32 31).toBitVec % 32).toNat = k) : ((nI n).toUInt32 >>> (s.toUInt32 &&& Int32.toUInt32 31)).toInt32 = nI (n / 2 ^ k) := by
  apply Int32.toBitVec_inj.mp
  apply BitVec.eq_of_toNat_eq
  rw [pk_ushr _ s k hs, pk_tn hn, pk_tn (Nat.lt_of_le_of_lt (Nat.div_le_self _ _) hn)]
theorem pk_nb (z : Int32) : narrow .byte (.int z.toInt8.toInt32) = .int z.toInt8.toInt32 := congrArg Value.int (by simp)
theorem pk_ns (z : Int32) : narrow .short (.int z.toInt16.toInt32) = .int z.toInt16.toInt32 := congrArg Value.int (by simp)
theorem pk_fb (r : Int32) : fits .byte (.int r.toInt8.toInt32) = true := by
  have ⟨a, b⟩ := lg_i2b_range r
  have h1 : (-128 : Int32).toInt = -128 := by decide
  have h2 : (127 : Int32).toInt = 127 := by decide
  simp only [fits, Bool.and_eq_true, decide_eq_true_eq, Int32.le_iff_toInt_le, h1, h2]
  omega
theorem pk_fs (r : Int32) : fits .short (.int r.toInt16.toInt32) = true := by
  have ⟨a, b⟩ := lg_i2s_range r
  have h1 : (-32768 : Int32).toInt = -32768 := by decide
  have h2 : (32767 : Int32).toInt = 32767 := by decide
  simp only [fits, Bool.and_eq_true, decide_eq_true_eq, Int32.le_iff_toInt_le, h1, h2]
  omega
theorem pk_charN {q : Nat} (hq : q < 65536) : narrow .char (.int (nI q)) = .int (nI q) ∧ fits .char (.int (nI q)) = true := by
  constructor
  · have e : (nI q).toUInt32.toUInt16.toUInt32.toInt32 = nI q := by
      apply Int32.toBitVec_inj.mp
      apply BitVec.eq_of_toNat_eq
      show (nI q).toUInt32.toUInt16.toUInt32.toNat = q % 2 ^ 32
      rw [UInt16.toNat_toUInt32, UInt32.toNat_toUInt16, show (nI q).toUInt32.toNat = q % 2 ^ 32 from rfl]
      omega
    exact congrArg Value.int e
  · have a : (0 : Int32) ≤ nI q := nI_pos' (by omega)
    have b : nI q ≤ 65535 := nI_le (b := 65535) (by omega) (by decide)
    show (decide ((0 : Int32) ≤ nI q) && decide (nI q ≤ 65535)) = true
    rw [decide_eq_true a, decide_eq_true b]
    rfl
theorem pk_char (x : Int32) : (x.toUInt32 % 65536).toInt32 = nI (x.toBitVec.toNat % 65536) := by
  apply Int32.toBitVec_inj.mp
  apply BitVec.eq_of_toNat_eq
  rw [pk_tn (by omega)]
  show (x.toUInt32 % 65536).toNat = _
  rw [UInt32.toNat_mod]
  rfl
theorem pk_nc (x : Int32) : narrow .char (.int (x.toUInt32 % 65536).toInt32) = .int (x.toUInt32 % 65536).toInt32 := by
  rw [pk_char]
  exact (pk_charN (Nat.mod_lt _ (by decide))).1
theorem pk_fc (x : Int32) : fits .char (.int (x.toUInt32 % 65536).toInt32) = true := by
  rw [pk_char]
  exact (pk_charN (Nat.mod_lt _ (by decide))).2
theorem pk_vb (z : Int32) : vp_nar .byte z.toInt8.toInt32 = z.toInt8.toInt32 := by rw [vp_nar_byte]; simp
theorem pk_vs (z : Int32) : vp_nar .short z.toInt16.toInt32 = z.toInt16.toInt32 := by rw [vp_nar_short]; simp
theorem pk_vc (z : Int32) : vp_nar .char (z.toUInt32 % 65536).toInt32 = (z.toUInt32 % 65536).toInt32 := Value.int.inj (pk_nc z)
theorem pk_lT {n : Nat} (h : n < 2 ^ 63) : (lN n).toInt = (n : Int) := lg_ofNat_toInt h
theorem pk_lLT {a b : Nat} (ha : a < 2 ^ 63) (hb : b < 2 ^ 63) : lN a < lN b ↔ a < b := by
  rw [Int64.lt_iff_toInt_lt, pk_lT ha, pk_lT hb]; omega
theorem pk_lLE {a b : Nat} (ha : a < 2 ^ 63) (hb : b < 2 ^ 63) : lN a ≤ lN b ↔ a ≤ b := by
  rw [Int64.le_iff_toInt_le, pk_lT ha, pk_lT hb]; omega
theorem pk_lEQ {a b : Nat} (ha : a < 2 ^ 63) (hb : b < 2 ^ 63) : lN a = lN b ↔ a = b := by
  rw [← Int64.toInt_inj, pk_lT ha, pk_lT hb]; omega
theorem pk_lOf {x : Int64} (h : ¬ x < 0) : ∃ k : Nat, k < 2 ^ 63 ∧ x = lN k := by
  rw [Int64.lt_iff_toInt_lt] at h
  have h0 : (0 : Int64).toInt = 0 := by decide
  have hx := Int64.toInt_lt x
  refine ⟨x.toInt.toNat, by omega, Int64.toInt_inj.mp ?_⟩
  rw [pk_lT (by omega)]
  omega
theorem pk_lDiv {a b : Nat} (ha : a < 2 ^ 63) (h0 : 0 < b) (hb : b < 2 ^ 63) : lN a / lN b = lN (a / b) := by
  apply Int64.toInt_inj.mp
  rw [lg_ldiv_nonneg (by rw [pk_lT ha]; omega) (by rw [pk_lT hb]; omega), pk_lT ha, pk_lT hb, pk_lT (Nat.lt_of_le_of_lt (Nat.div_le_self a b) ha)]
  rfl
theorem pk_lRem {a b : Nat} (ha : a < 2 ^ 63) (h0 : 0 < b) (hb : b < 2 ^ 63) : lN a - lN a / lN b * lN b = lN (a % b) := by
  rw [pk_lDiv ha h0 hb, lN_mul, lN_sub (Nat.div_mul_le_self a b)]
  exact congrArg lN (by have := Nat.div_add_mod' a b; omega)
theorem pk_loop {σ : Type} (W : Nat → Nat → σ → Prop) (I : Nat → σ → Prop) (e i0 : Nat) (s : σ) (hi : i0 ≤ e) (h0 : I i0 s) (hx : ∀ n s, I e s → W (n + 1) e s)
    (hs : ∀ n i s, i < e → I i s → (∀ s', I (i + 1) s' → W n (i + 1) s') → W (n + 1) i s) : ∃ n, W n i0 s :=
  ⟨e + 1, loop_i W I e hx hs (e + 1) i0 s hi (by omega) h0⟩
theorem pk_loopD {σ : Type} (W : Nat → Nat → σ → Prop) (I : Nat → σ → Prop) (hx : ∀ n s, I 0 s → W (n + 1) 0 s)
    (hs : ∀ n i s, I (i + 1) s → (∀ s', I i s' → W n i s') → W (n + 1) (i + 1) s) : ∀ (e : Nat) (s : σ), I e s → W (e + 1) e s := by
  intro e
  induction e with
  | zero => exact fun s h => hx 0 s h
  | succ e ih => exact fun s h => hs (e + 1) e s h (fun s' h' => ih s' h')
theorem lp1 {A1 : Type} (W : Nat → A1 → Prop) (I : A1 → Prop) (μ : A1 → Nat) (hs : ∀ (n : Nat) (a1 : A1), I a1 → (∀ (b1 : A1), I b1 → μ b1 < μ a1 → W n b1) → W (n + 1) a1) (a1 : A1) (h : I a1) : ∃ n, W n a1 :=
  loop_m (σ := A1) (fun n s => W n s) (fun s => I s) (fun s => μ s) (fun n s hI hk => hs n s hI (fun b1 h9 hm => hk b1 h9 hm)) a1 h
theorem lp2 {A1 A2 : Type} (W : Nat → A1 → A2 → Prop) (I : A1 → A2 → Prop) (μ : A1 → A2 → Nat) (hs : ∀ (n : Nat) (a1 : A1) (a2 : A2), I a1 a2 → (∀ (b1 : A1) (b2 : A2), I b1 b2 → μ b1 b2 < μ a1 a2 → W n b1 b2) → W (n + 1) a1 a2) (a1 : A1) (a2 : A2) (h : I a1 a2) : ∃ n, W n a1 a2 :=
  loop_m (σ := A1 × A2) (fun n s => W n s.1 s.2) (fun s => I s.1 s.2) (fun s => μ s.1 s.2) (fun n s hI hk => hs n s.1 s.2 hI (fun b1 b2 h9 hm => hk (b1, b2) h9 hm)) (a1, a2) h
theorem lp3 {A1 A2 A3 : Type} (W : Nat → A1 → A2 → A3 → Prop) (I : A1 → A2 → A3 → Prop) (μ : A1 → A2 → A3 → Nat) (hs : ∀ (n : Nat) (a1 : A1) (a2 : A2) (a3 : A3), I a1 a2 a3 → (∀ (b1 : A1) (b2 : A2) (b3 : A3), I b1 b2 b3 → μ b1 b2 b3 < μ a1 a2 a3 → W n b1 b2 b3) → W (n + 1) a1 a2 a3) (a1 : A1) (a2 : A2) (a3 : A3) (h : I a1 a2 a3) : ∃ n, W n a1 a2 a3 :=
  loop_m (σ := A1 × A2 × A3) (fun n s => W n s.1 s.2.1 s.2.2) (fun s => I s.1 s.2.1 s.2.2) (fun s => μ s.1 s.2.1 s.2.2) (fun n s hI hk => hs n s.1 s.2.1 s.2.2 hI (fun b1 b2 b3 h9 hm => hk (b1, b2, b3) h9 hm)) (a1, a2, a3) h
theorem lp4 {A1 A2 A3 A4 : Type} (W : Nat → A1 → A2 → A3 → A4 → Prop) (I : A1 → A2 → A3 → A4 → Prop) (μ : A1 → A2 → A3 → A4 → Nat) (hs : ∀ (n : Nat) (a1 : A1) (a2 : A2) (a3 : A3) (a4 : A4), I a1 a2 a3 a4 → (∀ (b1 : A1) (b2 : A2) (b3 : A3) (b4 : A4), I b1 b2 b3 b4 → μ b1 b2 b3 b4 < μ a1 a2 a3 a4 → W n b1 b2 b3 b4) → W (n + 1) a1 a2 a3 a4) (a1 : A1) (a2 : A2) (a3 : A3) (a4 : A4) (h : I a1 a2 a3 a4) : ∃ n, W n a1 a2 a3 a4 :=
  loop_m (σ := A1 × A2 × A3 × A4) (fun n s => W n s.1 s.2.1 s.2.2.1 s.2.2.2) (fun s => I s.1 s.2.1 s.2.2.1 s.2.2.2) (fun s => μ s.1 s.2.1 s.2.2.1 s.2.2.2) (fun n s hI hk => hs n s.1 s.2.1 s.2.2.1 s.2.2.2 hI (fun b1 b2 b3 b4 h9 hm => hk (b1, b2, b3, b4) h9 hm)) (a1, a2, a3, a4) h
theorem lp5 {A1 A2 A3 A4 A5 : Type} (W : Nat → A1 → A2 → A3 → A4 → A5 → Prop) (I : A1 → A2 → A3 → A4 → A5 → Prop) (μ : A1 → A2 → A3 → A4 → A5 → Nat) (hs : ∀ (n : Nat) (a1 : A1) (a2 : A2) (a3 : A3) (a4 : A4) (a5 : A5), I a1 a2 a3 a4 a5 → (∀ (b1 : A1) (b2 : A2) (b3 : A3) (b4 : A4) (b5 : A5), I b1 b2 b3 b4 b5 → μ b1 b2 b3 b4 b5 < μ a1 a2 a3 a4 a5 → W n b1 b2 b3 b4 b5) → W (n + 1) a1 a2 a3 a4 a5) (a1 : A1) (a2 : A2) (a3 : A3) (a4 : A4) (a5 : A5) (h : I a1 a2 a3 a4 a5) : ∃ n, W n a1 a2 a3 a4 a5 :=
  loop_m (σ := A1 × A2 × A3 × A4 × A5) (fun n s => W n s.1 s.2.1 s.2.2.1 s.2.2.2.1 s.2.2.2.2) (fun s => I s.1 s.2.1 s.2.2.1 s.2.2.2.1 s.2.2.2.2) (fun s => μ s.1 s.2.1 s.2.2.1 s.2.2.2.1 s.2.2.2.2) (fun n s hI hk => hs n s.1 s.2.1 s.2.2.1 s.2.2.2.1 s.2.2.2.2 hI (fun b1 b2 b3 b4 b5 h9 hm => hk (b1, b2, b3, b4, b5) h9 hm)) (a1, a2, a3, a4, a5) h
theorem lp6 {A1 A2 A3 A4 A5 A6 : Type} (W : Nat → A1 → A2 → A3 → A4 → A5 → A6 → Prop) (I : A1 → A2 → A3 → A4 → A5 → A6 → Prop) (μ : A1 → A2 → A3 → A4 → A5 → A6 → Nat) (hs : ∀ (n : Nat) (a1 : A1) (a2 : A2) (a3 : A3) (a4 : A4) (a5 : A5) (a6 : A6), I a1 a2 a3 a4 a5 a6 → (∀ (b1 : A1) (b2 : A2) (b3 : A3) (b4 : A4) (b5 : A5) (b6 : A6), I b1 b2 b3 b4 b5 b6 → μ b1 b2 b3 b4 b5 b6 < μ a1 a2 a3 a4 a5 a6 → W n b1 b2 b3 b4 b5 b6) → W (n + 1) a1 a2 a3 a4 a5 a6) (a1 : A1) (a2 : A2) (a3 : A3) (a4 : A4) (a5 : A5) (a6 : A6) (h : I a1 a2 a3 a4 a5 a6) : ∃ n, W n a1 a2 a3 a4 a5 a6 :=
  loop_m (σ := A1 × A2 × A3 × A4 × A5 × A6) (fun n s => W n s.1 s.2.1 s.2.2.1 s.2.2.2.1 s.2.2.2.2.1 s.2.2.2.2.2) (fun s => I s.1 s.2.1 s.2.2.1 s.2.2.2.1 s.2.2.2.2.1 s.2.2.2.2.2) (fun s => μ s.1 s.2.1 s.2.2.1 s.2.2.2.1 s.2.2.2.2.1 s.2.2.2.2.2) (fun n s hI hk => hs n s.1 s.2.1 s.2.2.1 s.2.2.2.1 s.2.2.2.2.1 s.2.2.2.2.2 hI (fun b1 b2 b3 b4 b5 b6 h9 hm => hk (b1, b2, b3, b4, b5, b6) h9 hm)) (a1, a2, a3, a4, a5, a6) h
theorem lp7 {A1 A2 A3 A4 A5 A6 A7 : Type} (W : Nat → A1 → A2 → A3 → A4 → A5 → A6 → A7 → Prop) (I : A1 → A2 → A3 → A4 → A5 → A6 → A7 → Prop) (μ : A1 → A2 → A3 → A4 → A5 → A6 → A7 → Nat) (hs : ∀ (n : Nat) (a1 : A1) (a2 : A2) (a3 : A3) (a4 : A4) (a5 : A5) (a6 : A6) (a7 : A7), I a1 a2 a3 a4 a5 a6 a7 → (∀ (b1 : A1) (b2 : A2) (b3 : A3) (b4 : A4) (b5 : A5) (b6 : A6) (b7 : A7), I b1 b2 b3 b4 b5 b6 b7 → μ b1 b2 b3 b4 b5 b6 b7 < μ a1 a2 a3 a4 a5 a6 a7 → W n b1 b2 b3 b4 b5 b6 b7) → W (n + 1) a1 a2 a3 a4 a5 a6 a7) (a1 : A1) (a2 : A2) (a3 : A3) (a4 : A4) (a5 : A5) (a6 : A6) (a7 : A7) (h : I a1 a2 a3 a4 a5 a6 a7) : ∃ n, W n a1 a2 a3 a4 a5 a6 a7 :=
  loop_m (σ := A1 × A2 × A3 × A4 × A5 × A6 × A7) (fun n s => W n s.1 s.2.1 s.2.2.1 s.2.2.2.1 s.2.2.2.2.1 s.2.2.2.2.2.1 s.2.2.2.2.2.2) (fun s => I s.1 s.2.1 s.2.2.1 s.2.2.2.1 s.2.2.2.2.1 s.2.2.2.2.2.1 s.2.2.2.2.2.2) (fun s => μ s.1 s.2.1 s.2.2.1 s.2.2.2.1 s.2.2.2.2.1 s.2.2.2.2.2.1 s.2.2.2.2.2.2) (fun n s hI hk => hs n s.1 s.2.1 s.2.2.1 s.2.2.2.1 s.2.2.2.2.1 s.2.2.2.2.2.1 s.2.2.2.2.2.2 hI (fun b1 b2 b3 b4 b5 b6 b7 h9 hm => hk (b1, b2, b3, b4, b5, b6, b7) h9 hm)) (a1, a2, a3, a4, a5, a6, a7) h
theorem lp8 {A1 A2 A3 A4 A5 A6 A7 A8 : Type} (W : Nat → A1 → A2 → A3 → A4 → A5 → A6 → A7 → A8 → Prop) (I : A1 → A2 → A3 → A4 → A5 → A6 → A7 → A8 → Prop) (μ : A1 → A2 → A3 → A4 → A5 → A6 → A7 → A8 → Nat) (hs : ∀ (n : Nat) (a1 : A1) (a2 : A2) (a3 : A3) (a4 : A4) (a5 : A5) (a6 : A6) (a7 : A7) (a8 : A8), I a1 a2 a3 a4 a5 a6 a7 a8 → (∀ (b1 : A1) (b2 : A2) (b3 : A3) (b4 : A4) (b5 : A5) (b6 : A6) (b7 : A7) (b8 : A8), I b1 b2 b3 b4 b5 b6 b7 b8 → μ b1 b2 b3 b4 b5 b6 b7 b8 < μ a1 a2 a3 a4 a5 a6 a7 a8 → W n b1 b2 b3 b4 b5 b6 b7 b8) → W (n + 1) a1 a2 a3 a4 a5 a6 a7 a8) (a1 : A1) (a2 : A2) (a3 : A3) (a4 : A4) (a5 : A5) (a6 : A6) (a7 : A7) (a8 : A8) (h : I a1 a2 a3 a4 a5 a6 a7 a8) : ∃ n, W n a1 a2 a3 a4 a5 a6 a7 a8 :=
  loop_m (σ := A1 × A2 × A3 × A4 × A5 × A6 × A7 × A8) (fun n s => W n s.1 s.2.1 s.2.2.1 s.2.2.2.1 s.2.2.2.2.1 s.2.2.2.2.2.1 s.2.2.2.2.2.2.1 s.2.2.2.2.2.2.2) (fun s => I s.1 s.2.1 s.2.2.1 s.2.2.2.1 s.2.2.2.2.1 s.2.2.2.2.2.1 s.2.2.2.2.2.2.1 s.2.2.2.2.2.2.2) (fun s => μ s.1 s.2.1 s.2.2.1 s.2.2.2.1 s.2.2.2.2.1 s.2.2.2.2.2.1 s.2.2.2.2.2.2.1 s.2.2.2.2.2.2.2) (fun n s hI hk => hs n s.1 s.2.1 s.2.2.1 s.2.2.2.1 s.2.2.2.2.1 s.2.2.2.2.2.1 s.2.2.2.2.2.2.1 s.2.2.2.2.2.2.2 hI (fun b1 b2 b3 b4 b5 b6 b7 b8 h9 hm => hk (b1, b2, b3, b4, b5, b6, b7, b8) h9 hm)) (a1, a2, a3, a4, a5, a6, a7, a8) h
theorem pk_least (P : Nat → Prop) (h : ∃ k, P k) : ∃ k, P k ∧ ∀ j, j < k → ¬ P j := by
  obtain ⟨k, hk⟩ := h
  induction k using Nat.strongRecOn with
  | ind k ih =>
    by_cases e : ∃ j, j < k ∧ P j
    · obtain ⟨j, hj, pj⟩ := e
      exact ih j hj pj
    · exact ⟨k, hk, fun j hj pj => e ⟨j, hj, pj⟩⟩
theorem pk_mu {x : Int32} {L : Nat} (h0 : ¬ x < 0) (h : ¬ nI L ≤ x) (hL : L < 2 ^ 31) : ∃ j : Nat, j < L ∧ x = nI j ∧ x + 1 = nI (j + 1) ∧ x.toNatClampNeg = j ∧ L - (x + 1).toNatClampNeg < L - x.toNatClampNeg := by
  obtain ⟨j, hj, rfl⟩ := nI_of h0
  have hl : j < L := Nat.not_le.mp fun q => h (nI_le q hj)
  refine ⟨j, hl, rfl, nI_1 j, nI_clamp hj, ?_⟩
  rw [nI_1, nI_clamp (by omega), nI_clamp hj]
  omega
theorem nx_and (a b : Nat) : nI a &&& nI b = nI (a &&& b) := by
  apply Int32.toBitVec_inj.1
  show BitVec.ofNat 32 a &&& BitVec.ofNat 32 b = BitVec.ofNat 32 (a &&& b)
  apply BitVec.eq_of_getLsbD_eq
  intro i hi
  simp [hi]
theorem nx_xor (a b : Nat) : nI a ^^^ nI b = nI (a ^^^ b) := by
  apply Int32.toBitVec_inj.1
  show BitVec.ofNat 32 a ^^^ BitVec.ofNat 32 b = BitVec.ofNat 32 (a ^^^ b)
  apply BitVec.eq_of_getLsbD_eq
  intro i hi
  simp [hi]
theorem nx_cnt : ∀ j : Fin 32, (UInt32.ofNat j.val &&& Int32.toUInt32 31).toNat % 32 = j.val := by decide +kernel
theorem nx_ush {k j : Nat} (hk : k < 65536) (hj : j < 32) : ((nI k).toUInt32 >>> ((nI j).toUInt32 &&& Int32.toUInt32 31)).toInt32 = nI (k >>> j) := by
  have hs : k >>> j ≤ k := by
    rw [Nat.shiftRight_eq_div_pow]
    exact Nat.div_le_self _ _
  have e2 : UInt32.ofNat k >>> (UInt32.ofNat j &&& Int32.toUInt32 31) = UInt32.ofNat (k >>> j) := by
    apply UInt32.toNat_inj.1
    have h1 : (UInt32.ofNat k).toNat = k := Nat.mod_eq_of_lt (by omega)
    have h2 : (UInt32.ofNat (k >>> j)).toNat = k >>> j := Nat.mod_eq_of_lt (by omega)
    rw [UInt32.toNat_shiftRight, nx_cnt ⟨j, hj⟩, h1, h2]
  show (UInt32.ofNat k >>> (UInt32.ofNat j &&& Int32.toUInt32 31)).toInt32 = _
  rw [e2]
  rfl
theorem nx_bit {k j : Nat} (hk : k < 65536) (hj : j < 16) : (((nI k).toUInt32 >>> ((nI j).toUInt32 &&& Int32.toUInt32 31)).toInt32 &&& 1) = 0 ↔ k.testBit j = false := by
  rw [nx_ush hk (by omega)]
  show nI (k >>> j) &&& nI 1 = 0 ↔ _
  rw [nx_and, Nat.and_one_is_mod, ← nI_0, nI_eq (by omega) (by omega), Nat.testBit_eq_decide_div_mod_eq, Nat.shiftRight_eq_div_pow, decide_eq_false_iff_not]
  generalize k / 2 ^ j = z
  omega
theorem nx_mod (k : Nat) : nI k &&& 65535 = nI (k % 65536) := by
  show nI k &&& nI 65535 = _
  rw [nx_and, show (65535 : Nat) = 2 ^ 16 - 1 from rfl, Nat.and_two_pow_sub_one_eq_mod]
theorem nx_m16 {k : Nat} (h : k < 65536) : nI k &&& 65535 = nI k := by rw [nx_mod, Nat.mod_eq_of_lt h]
theorem nx_mask (x : Int32) : ∃ k, k < 65536 ∧ x &&& 65535 = nI k := by
  have e : x = nI x.toBitVec.toNat := by
    apply Int32.toBitVec_inj.1
    show x.toBitVec = BitVec.ofNat 32 x.toBitVec.toNat
    simp
  refine ⟨x.toBitVec.toNat % 65536, Nat.mod_lt _ (by omega), ?_⟩
  rw [← nx_mod, ← e]
theorem ts_nf {x : Bool} (h : ¬ x = false) : x = true := by cases x <;> first | rfl | exact absurd rfl h
theorem ts_nt {x : Bool} (h : ¬ x = true) : x = false := by cases x <;> first | rfl | exact absurd rfl h
theorem wb_tb (n : Nat) : (lN n).toBitVec = BitVec.ofNat 64 n := rfl
theorem wb_inj {a b : Int64} (h : a.toBitVec = b.toBitVec) : a = b := Int64.toBitVec_inj.mp h
theorem wb_tn {n : Nat} (h : n < 2 ^ 64) : (lN n).toBitVec.toNat = n := by rw [wb_tb, BitVec.toNat_ofNat, Nat.mod_eq_of_lt h]
theorem wb_of (x : Int64) : ∃ n, n < 2 ^ 64 ∧ x = lN n := ⟨x.toBitVec.toNat, x.toBitVec.isLt, wb_inj (by rw [wb_tb]; simp)⟩
theorem wb_of32 (x : Int32) : ∃ n, n < 2 ^ 32 ∧ x = nI n := ⟨x.toBitVec.toNat, x.toBitVec.isLt, Int32.toBitVec_inj.mp (by show _ = BitVec.ofNat 32 _; simp)⟩
theorem wb_c : ∀ k, k < 64 → ((nI k).toInt64 &&& 63) = lN k := by decide +kernel
theorem wb_cu : ∀ k, k < 64 → ((nI k).toInt64.toUInt64 &&& Int64.toUInt64 63) = UInt64.ofNat k := by decide +kernel
theorem wb_sm : ∀ k, k < 64 → (BitVec.ofNat 64 k).smod 64 = BitVec.ofNat 64 k := by decide +kernel
theorem wb_pw {a b : Nat} (h : a ≤ b) : 2 ^ b = 2 ^ a * 2 ^ (b - a) := by rw [← Nat.pow_add]; congr 1; omega
theorem wb_lt2 {a b : Nat} (h : a < b) : 2 ^ a < 2 ^ b := Nat.pow_lt_pow_right (by decide) h
theorem wb_mod (n : Nat) : lN n = lN (n % 2 ^ 64) := wb_inj (by rw [wb_tb, wb_tb]; apply BitVec.eq_of_toNat_eq; rw [BitVec.toNat_ofNat, BitVec.toNat_ofNat, Nat.mod_mod])
theorem wb_shr {n k : Nat} (hn : n < 2 ^ 64) (hk : k < 64) : ((lN n).toUInt64 >>> ((nI k).toInt64.toUInt64 &&& Int64.toUInt64 63)).toInt64 = lN (n / 2 ^ k) := by
  rw [wb_cu k hk]
  apply wb_inj
  apply BitVec.eq_of_toNat_eq
  show ((lN n).toUInt64 >>> UInt64.ofNat k).toNat = (BitVec.ofNat 64 _).toNat
  have h1 : (UInt64.ofNat k).toNat = k := by
    show (BitVec.ofNat 64 k).toNat = k
    rw [BitVec.toNat_ofNat, Nat.mod_eq_of_lt (by omega)]
  have h2 : (lN n).toUInt64.toNat = n := wb_tn hn
  rw [UInt64.toNat_shiftRight, h1, h2, Nat.mod_eq_of_lt hk, Nat.shiftRight_eq_div_pow, BitVec.toNat_ofNat, Nat.mod_eq_of_lt (Nat.lt_of_le_of_lt (Nat.div_le_self _ _) hn)]
theorem wb_shl (n : Nat) {k : Nat} (hk : k < 64) : lN n <<< ((nI k).toInt64 &&& 63) = lN (n * 2 ^ k) := by
  rw [wb_c k hk]
  apply wb_inj
  rw [Int64.toBitVec_shiftLeft, wb_tb, wb_tb, wb_tb, wb_sm k hk]
  apply BitVec.eq_of_toNat_eq
  rw [BitVec.shiftLeft_eq', BitVec.toNat_shiftLeft, BitVec.toNat_ofNat, BitVec.toNat_ofNat, BitVec.toNat_ofNat, Nat.mod_eq_of_lt (show k < 2 ^ 64 by omega), Nat.shiftLeft_eq, Nat.mul_mod, Nat.mod_mod, ← Nat.mul_mod]
theorem wb_and {a b : Nat} (ha : a < 2 ^ 64) (hb : b < 2 ^ 64) : lN a &&& lN b = lN (a &&& b) := by
  apply wb_inj
  rw [Int64.toBitVec_and, wb_tb, wb_tb, wb_tb]
  apply BitVec.eq_of_toNat_eq
  rw [BitVec.toNat_and, BitVec.toNat_ofNat, BitVec.toNat_ofNat, BitVec.toNat_ofNat, Nat.mod_eq_of_lt ha, Nat.mod_eq_of_lt hb, Nat.mod_eq_of_lt (Nat.and_lt_two_pow _ hb)]
theorem wb_or {a b : Nat} (ha : a < 2 ^ 64) (hb : b < 2 ^ 64) : lN a ||| lN b = lN (a ||| b) := by
  apply wb_inj
  rw [Int64.toBitVec_or, wb_tb, wb_tb, wb_tb]
  apply BitVec.eq_of_toNat_eq
  rw [BitVec.toNat_or, BitVec.toNat_ofNat, BitVec.toNat_ofNat, BitVec.toNat_ofNat, Nat.mod_eq_of_lt ha, Nat.mod_eq_of_lt hb, Nat.mod_eq_of_lt (Nat.or_lt_two_pow ha hb)]
theorem wb_mask {n k : Nat} (hn : n < 2 ^ 64) (hk : k < 64) : lN n &&& lN (2 ^ k - 1) = lN (n % 2 ^ k) := by
  rw [wb_and hn (by have := wb_lt2 hk; omega), Nat.and_two_pow_sub_one_eq_mod]
theorem wb_a1 {n : Nat} (hn : n < 2 ^ 64) : lN n &&& 1 = lN (n % 2) := wb_mask (k := 1) hn (by decide)
theorem wb_bit {n k : Nat} (hn : n < 2 ^ 64) (hk : k < 64) : ((lN n).toUInt64 >>> ((nI k).toInt64.toUInt64 &&& Int64.toUInt64 63)).toInt64 &&& 1 = lN (n / 2 ^ k % 2) := by
  rw [wb_shr hn hk, wb_a1 (Nat.lt_of_le_of_lt (Nat.div_le_self _ _) hn)]
theorem wb_xor {q k : Nat} (hk : k < 63) (h : 2 ^ k ≤ q) (h2 : q < 2 ^ (k + 1)) : lN q ^^^ lN (2 ^ k) = lN (q - 2 ^ k) := by
  obtain ⟨r, rfl⟩ : ∃ r, q = 2 ^ k + r := ⟨q - 2 ^ k, by omega⟩
  have hr : r < 2 ^ k := by rw [Nat.pow_succ] at h2; omega
  have hx : (2 ^ k + r) ^^^ 2 ^ k = r := by
    apply Nat.eq_of_testBit_eq
    intro i
    rw [Nat.testBit_xor, Nat.testBit_two_pow]
    rcases Nat.lt_trichotomy i k with h | h | h
    · rw [Nat.testBit_two_pow_add_gt h]
      simp [show ¬ k = i by omega]
    · subst h
      rw [Nat.testBit_two_pow_add_eq]
      simp
    · have a1 : 2 ^ (k + 1) ≤ 2 ^ i := Nat.pow_le_pow_right (by decide) h
      rw [Nat.testBit_lt_two_pow (show 2 ^ k + r < 2 ^ i by omega), Nat.testBit_lt_two_pow (show r < 2 ^ i by omega)]
      simp [show ¬ k = i by omega]
  have b1 := wb_lt2 (show k + 1 < 64 by omega)
  have b2 := wb_lt2 (show k < 64 by omega)
  apply wb_inj
  rw [Int64.toBitVec_xor, wb_tb, wb_tb, wb_tb]
  apply BitVec.eq_of_toNat_eq
  rw [BitVec.toNat_xor, BitVec.toNat_ofNat, BitVec.toNat_ofNat, BitVec.toNat_ofNat, Nat.mod_eq_of_lt (by omega : 2 ^ k + r < 2 ^ 64), Nat.mod_eq_of_lt b2, hx, Nat.add_sub_cancel_left, Nat.mod_eq_of_lt (by omega)]
theorem u_tn {n : Nat} (h : n < 2 ^ 64) : (UInt64.ofNat n).toNat = n := Nat.mod_eq_of_lt h
theorem g_and {a b c : Nat} (ha : a < 2 ^ 64) (hb : b < 2 ^ 64) (hc : a &&& b = c) : lN a &&& lN b = lN c := by
  subst hc
  have h : UInt64.ofNat a &&& UInt64.ofNat b = UInt64.ofNat (a &&& b) := UInt64.toNat_inj.mp (by rw [UInt64.toNat_and, u_tn ha, u_tn hb, u_tn (Nat.and_lt_two_pow a hb)])
  have h2 := congrArg UInt64.toInt64 h
  exact h2
theorem g_and1 {a : Nat} (ha : a < 2 ^ 64) : lN a &&& 1 = lN (a % 2) := g_and (b := 1) ha (by decide) (Nat.and_two_pow_sub_one_eq_mod a 1)
theorem g_mask {a s p : Nat} (hp : 2 ^ s = p) (hs : s < 64) (ha : a < 2 ^ 64) : lN a &&& lN (p - 1) = lN (a % p) := by
  subst hp
  have := Nat.pow_lt_pow_right (show 1 < 2 by decide) hs
  exact g_and ha (by omega) (Nat.and_two_pow_sub_one_eq_mod a s)
theorem g_or {k p a b : Nat} (hp : 2 ^ k = p) (ha : a < p) (h : b * p + a < 2 ^ 64) : lN (b * p) ||| lN a = lN (b * p + a) := by
  subst hp
  have h1 : b * 2 ^ k ||| a = b * 2 ^ k + a := by rw [← Nat.shiftLeft_eq, Nat.shiftLeft_add_eq_or_of_lt ha]
  have h3 : UInt64.ofNat (b * 2 ^ k) ||| UInt64.ofNat a = UInt64.ofNat (b * 2 ^ k + a) := UInt64.toNat_inj.mp (by rw [UInt64.toNat_or, u_tn (by omega), u_tn (by omega), u_tn h, h1])
  have h2 := congrArg UInt64.toInt64 h3
  exact h2
theorem g_or' {k p a b : Nat} (hp : 2 ^ k = p) (ha : a < p) (h : a + b * p < 2 ^ 64) : lN a ||| lN (b * p) = lN (a + b * p) := by
  rw [Int64.or_comm, g_or hp ha (by omega), Nat.add_comm]
theorem g_ushr {a k p : Nat} {y : UInt64} (hy : y = UInt64.ofNat k) (hk : k < 64) (hp : 2 ^ k = p) (ha : a < 2 ^ 64) : ((lN a).toUInt64 >>> y).toInt64 = lN (a / p) := by
  subst hy hp
  have h : UInt64.ofNat a >>> UInt64.ofNat k = UInt64.ofNat (a / 2 ^ k) := UInt64.toNat_inj.mp (by rw [UInt64.toNat_shiftRight, u_tn ha, u_tn (by omega), u_tn (Nat.lt_of_le_of_lt (Nat.div_le_self _ _) ha), Nat.mod_eq_of_lt hk, Nat.shiftRight_eq_div_pow])
  have h2 := congrArg UInt64.toInt64 h
  exact h2
theorem g_shl {a k p : Nat} {y : Int64} (hy : y.toBitVec.smod 64 = BitVec.ofNat 64 k) (hk : k < 64) (hp : 2 ^ k = p) (ha : a < 2 ^ 64) : lN a <<< y = lN (a * p) := by
  subst hp
  apply Int64.toBitVec_inj.mp
  rw [Int64.toBitVec_shiftLeft, hy]
  apply BitVec.eq_of_toNat_eq
  have hb : (lN a).toBitVec.toNat = a := Nat.mod_eq_of_lt ha
  have hk' : (BitVec.ofNat 64 k).toNat = k := Nat.mod_eq_of_lt (by omega)
  have h : ((lN a).toBitVec <<< BitVec.ofNat 64 k).toNat = (a * 2 ^ k) % 2 ^ 64 := by simp only [BitVec.shiftLeft_eq', BitVec.toNat_shiftLeft, hb, hk', Nat.shiftLeft_eq]
  exact h
def uN (x : Int64) : Nat := x.toUInt64.toNat
theorem uN_lt (x : Int64) : uN x < 18446744073709551616 := x.toUInt64.toNat_lt
theorem uN_inj {x y : Int64} (h : uN x = uN y) : x = y := congrArg UInt64.toInt64 (UInt64.toNat_inj.mp h)
theorem uN_add (x y : Int64) : uN (x + y) = (uN x + uN y) % 18446744073709551616 := by
  show (x.toUInt64 + y.toUInt64).toNat = _
  exact UInt64.toNat_add _ _
theorem uN_mul (x y : Int64) : uN (x * y) = (uN x * uN y) % 18446744073709551616 := by
  show (x.toUInt64 * y.toUInt64).toNat = _
  exact UInt64.toNat_mul _ _
theorem uN_shl (x : Int64) : uN (x <<< ((1 : Int32).toInt64 &&& 63)) = (2 * uN x) % 18446744073709551616 := by
  have h : (((1 : Int32).toInt64 &&& 63).toBitVec.smod 64).toNat = 1 := by decide
  show (x.toBitVec <<< (((1 : Int32).toInt64 &&& 63).toBitVec.smod 64).toNat).toNat = _
  rw [h, BitVec.toNat_shiftLeft, Nat.shiftLeft_eq, Nat.mul_comm]
  rfl
theorem uN_shr (x : Int64) (s : UInt64) : uN (x.toUInt64 >>> s).toInt64 = uN x / 2 ^ (s.toNat % 64) := by
  show (x.toUInt64 >>> s).toNat = _
  rw [UInt64.toNat_shiftRight, Nat.shiftRight_eq_div_pow]
  rfl
theorem uN_s32 (x : Int64) : uN (x.toUInt64 >>> ((32 : Int32).toInt64.toUInt64 &&& Int64.toUInt64 63)).toInt64 = uN x / 4294967296 := by
  have h : ((32 : Int32).toInt64.toUInt64 &&& Int64.toUInt64 63).toNat % 64 = 32 := by decide
  rw [uN_shr, h]
theorem uN_s63 (x : Int64) : uN (x.toUInt64 >>> ((63 : Int32).toInt64.toUInt64 &&& Int64.toUInt64 63)).toInt64 = uN x / 9223372036854775808 := by
  have h : ((63 : Int32).toInt64.toUInt64 &&& Int64.toUInt64 63).toNat % 64 = 63 := by decide
  rw [uN_shr, h]
theorem uN_lo (x : Int64) : uN (x &&& 4294967295) = uN x % 4294967296 := by
  show (x.toUInt64 &&& Int64.toUInt64 4294967295).toNat = _
  rw [UInt64.toNat_and]
  exact Nat.and_two_pow_sub_one_eq_mod _ 32
theorem uN_bit (x : Int64) : (x &&& 1) = 0 ↔ uN x % 2 = 0 := by
  have h : uN (x &&& 1) = uN x % 2 := by
    show (x.toUInt64 &&& Int64.toUInt64 1).toNat = _
    rw [UInt64.toNat_and]
    exact Nat.and_two_pow_sub_one_eq_mod _ 1
  rw [← h]
  exact ⟨fun z => by rw [z]; rfl, fun z => uN_inj (z.trans rfl)⟩
theorem uN_or {x y : Int64} (hy : uN y < 2) : uN ((x <<< ((1 : Int32).toInt64 &&& 63)) ||| y) = (2 * uN x) % 18446744073709551616 + uN y := by
  have h1 : uN ((x <<< ((1 : Int32).toInt64 &&& 63)) ||| y) = uN (x <<< ((1 : Int32).toInt64 &&& 63)) ||| uN y := UInt64.toNat_or _ _
  have h2 : (2 * uN x) % 18446744073709551616 = 2 ^ 1 * (uN x % 9223372036854775808) := by omega
  rw [h1, uN_shl, h2]
  exact (Nat.two_pow_add_eq_or_of_lt (i := 1) hy _).symm
theorem nat_xor {a : Nat} (h : a < 18446744073709551616) : a ^^^ 2 ^ 63 = (a + 9223372036854775808) % 18446744073709551616 := by
  have h1 : (a ^^^ 2 ^ 63) % 2 ^ 63 = a % 2 ^ 63 := by rw [Nat.xor_mod_two_pow, Nat.mod_self, Nat.xor_zero]
  have h2 : (a ^^^ 2 ^ 63) / 2 ^ 63 = (a / 2 ^ 63) ^^^ 1 := by rw [Nat.xor_div_two_pow, Nat.div_self (Nat.two_pow_pos 63)]
  have h3 : a / 2 ^ 63 = 0 ∨ a / 2 ^ 63 = 1 := by omega
  generalize a ^^^ 2 ^ 63 = t at h1 h2
  rcases h3 with h3 | h3
  · rw [h3] at h2
    have h2 : t / 2 ^ 63 = 1 := h2
    omega
  · rw [h3] at h2
    have h2 : t / 2 ^ 63 = 0 := h2
    omega
theorem uN_xor (x : Int64) : uN (x ^^^ (-9223372036854775808)) = (uN x + 9223372036854775808) % 18446744073709551616 := by
  rw [← nat_xor (uN_lt x)]
  exact UInt64.toNat_xor _ _
theorem uN_int (x : Int64) : x.toInt = if 2 * uN x < 18446744073709551616 then (uN x : Int) else (uN x : Int) - 18446744073709551616 := BitVec.toInt_eq_toNat_cond _
theorem uN_le (x y : Int64) : (x ^^^ (-9223372036854775808)) ≤ (y ^^^ (-9223372036854775808)) ↔ uN x ≤ uN y := by
  have hx := uN_lt x
  have hy := uN_lt y
  rw [Int64.le_iff_toInt_le, uN_int, uN_int, uN_xor, uN_xor]
  omega
theorem uN_sk (x : Int64) {k : Nat} (hk : k < 64) : uN (x.toUInt64 >>> ((nI k).toInt64.toUInt64 &&& Int64.toUInt64 63)).toInt64 = uN x / 2 ^ k := by
  have h : ((nI k).toInt64.toUInt64 &&& Int64.toUInt64 63).toNat % 64 = k := by
    rw [nI_l (by omega), UInt64.toNat_and]
    have e : (lN k).toUInt64.toNat = k % 2 ^ 64 := rfl
    have e2 : (Int64.toUInt64 63).toNat = 2 ^ 6 - 1 := by decide
    rw [e, e2, Nat.and_two_pow_sub_one_eq_mod]
    omega
  rw [uN_shr, h]
end
section
-- Part 02: Counts, and the number of ones of a word.
/-- how many q below i have p -/
def sq_c (p : Nat → Bool) : Nat → Nat
  | 0 => 0
  | i + 1 => sq_c p i + (if p i = true then 1 else 0)
theorem sq_c0 (p : Nat → Bool) : sq_c p 0 = 0 := rfl
theorem sq_cs (p : Nat → Bool) (i : Nat) : sq_c p (i + 1) = sq_c p i + (if p i = true then 1 else 0) := rfl
theorem sq_ct {p : Nat → Bool} {i : Nat} (h : p i = true) : sq_c p (i + 1) = sq_c p i + 1 := by rw [sq_cs, if_pos h]
theorem sq_cf {p : Nat → Bool} {i : Nat} (h : p i = false) : sq_c p (i + 1) = sq_c p i := by rw [sq_cs, h]; rfl
theorem sq_cle (p : Nat → Bool) : ∀ i, sq_c p i ≤ i := by
  intro i
  induction i with
  | zero => exact Nat.le_refl _
  | succ i ih => rw [sq_cs]; split <;> omega
theorem sq_ccg {p q : Nat → Bool} : ∀ i, (∀ j, j < i → p j = q j) → sq_c p i = sq_c q i := by
  intro i
  induction i with
  | zero => intro _; rfl
  | succ i ih =>
    intro h
    rw [sq_cs, sq_cs, ih (fun j hj => h j (by omega)), h i (by omega)]
theorem sq_cadd (p : Nat → Bool) (a : Nat) : ∀ b, sq_c p (a + b) = sq_c p a + sq_c (fun q => p (a + q)) b := by
  intro b
  induction b with
  | zero => rfl
  | succ b ih => rw [← Nat.add_assoc, sq_cs, sq_cs, ih]; omega
theorem sq_cmono (p : Nat → Bool) {a b : Nat} (h : a ≤ b) : sq_c p a ≤ sq_c p b := by
  have := sq_cadd p a (b - a)
  rw [show a + (b - a) = b by omega] at this
  omega
theorem sq_cbd (p : Nat → Bool) {a b : Nat} (h : a ≤ b) : sq_c p b ≤ sq_c p a + (b - a) := by
  have := sq_cadd p a (b - a)
  rw [show a + (b - a) = b by omega] at this
  have := sq_cle (fun q => p (a + q)) (b - a)
  omega
theorem sq_cnone {p : Nat → Bool} : ∀ i, (∀ j, j < i → p j = false) → sq_c p i = 0 := by
  intro i
  induction i with
  | zero => intro _; rfl
  | succ i ih =>
    intro h
    rw [sq_cf (h i (by omega)), ih (fun j hj => h j (by omega))]
theorem sq_call {p : Nat → Bool} : ∀ i, (∀ j, j < i → p j = true) → sq_c p i = i := by
  intro i
  induction i with
  | zero => intro _; rfl
  | succ i ih =>
    intro h
    rw [sq_ct (h i (by omega)), ih (fun j hj => h j (by omega))]
theorem sq_cspl (p b : Nat → Bool) : ∀ i, sq_c p i = sq_c (fun q => p q && b q) i + sq_c (fun q => p q && !b q) i := by
  intro i
  induction i with
  | zero => rfl
  | succ i ih =>
    rw [sq_cs, sq_cs, sq_cs, ih]
    show _ + (if p i = true then 1 else 0) = _ + (if (p i && b i) = true then 1 else 0) + (_ + (if (p i && !b i) = true then 1 else 0))
    cases p i <;> cases b i <;> simp <;> omega
theorem sq_cnot (p : Nat → Bool) : ∀ i, sq_c p i + sq_c (fun q => !p q) i = i := by
  intro i
  induction i with
  | zero => rfl
  | succ i ih =>
    rw [sq_cs, sq_cs]
    show _ + (if p i = true then 1 else 0) + (_ + (if (!p i) = true then 1 else 0)) = _
    cases p i <;> simp <;> omega
theorem sq_csub {p q : Nat → Bool} (h : ∀ j, p j = true → q j = true) : ∀ i, sq_c p i ≤ sq_c q i := by
  intro i
  induction i with
  | zero => exact Nat.le_refl _
  | succ i ih =>
    rw [sq_cs, sq_cs]
    cases e : p i with
    | false => rw [if_neg (by decide)]; omega
    | true => rw [h i e, if_pos rfl]; omega
theorem sq_clt {p : Nat → Bool} {j i : Nat} (hj : j < i) (h : p j = true) : sq_c p j < sq_c p i := by
  have := sq_cmono p (show j + 1 ≤ i by omega)
  rw [sq_ct h] at this
  omega

-- ---- the number of ones of a word, byte by byte ----
theorem sq_and256 {a b c d : Nat} (hb : b < 256) (hd : d < 256) : (256 * a + b) &&& (256 * c + d) = 256 * (a &&& c) + (b &&& d) := by
  have h1 : ((256 * a + b) &&& (256 * c + d)) / 2 ^ 8 = a &&& c := by
    rw [Nat.and_div_two_pow, show (256 * a + b) / 2 ^ 8 = a by omega, show (256 * c + d) / 2 ^ 8 = c by omega]
  have h2 : ((256 * a + b) &&& (256 * c + d)) % 2 ^ 8 = b &&& d := by
    rw [Nat.and_mod_two_pow, show (256 * a + b) % 2 ^ 8 = b by omega, show (256 * c + d) % 2 ^ 8 = d by omega]
  generalize ((256 * a + b) &&& (256 * c + d)) = z at h1 h2
  generalize a &&& c = u at h1 ⊢
  generalize b &&& d = v at h2 ⊢
  omega
/-- the byte c, k times -/
def sq_bm (c : Nat) : Nat → Nat
  | 0 => 0
  | k + 1 => 256 * sq_bm c k + c
/-- the k low bytes of x, each by f -/
def sq_by (f : Nat → Nat) (x : Nat) : Nat → Nat
  | 0 => 0
  | k + 1 => 256 * sq_by f (x / 256) k + f (x % 256)
def sq_f1 (b : Nat) : Nat := b - (b / 2 &&& 85)
def sq_f2 (b : Nat) : Nat := (sq_f1 b &&& 51) + (sq_f1 b / 4 &&& 51)
def sq_f3 (b : Nat) : Nat := (sq_f2 b + sq_f2 b / 16) &&& 15
theorem sq_t1 : ∀ y, y < 2 → ∀ b, b < 256 → (128 * y + b / 2) &&& 85 = b / 2 &&& 85 := by decide +kernel
theorem sq_t1b : ∀ b, b < 256 → sq_f1 b < 256 ∧ sq_f2 b % 16 ≤ 4 ∧ sq_f2 b < 80 ∧ sq_f3 b ≤ 8 := by decide +kernel
theorem sq_t2 : ∀ y, y < 4 → ∀ b, b < 256 → (64 * y + b / 4) &&& 51 = b / 4 &&& 51 := by decide +kernel
theorem sq_t3 : ∀ y, y < 5 → ∀ b, b < 80 → (16 * y + (b + b / 16)) &&& 15 = (b + b / 16) &&& 15 := by decide +kernel
theorem sq_pb1 : ∀ k x, x < 256 ^ k → x - (x / 2 &&& sq_bm 85 k) = sq_by sq_f1 x k := by
  intro k
  induction k with
  | zero =>
    intro x hx
    show x - (x / 2 &&& 0) = 0
    rw [Nat.pow_zero] at hx
    omega
  | succ k ih =>
    intro x hx
    show x - (x / 2 &&& (256 * sq_bm 85 k + 85)) = 256 * sq_by sq_f1 (x / 256) k + sq_f1 (x % 256)
    have hq : x / 256 < 256 ^ k := by rw [Nat.pow_succ] at hx; omega
    rw [← ih (x / 256) hq]
    have e : x / 2 = 256 * (x / 256 / 2) + (128 * (x / 256 % 2) + x % 256 / 2) := by omega
    have hb : 128 * (x / 256 % 2) + x % 256 / 2 < 256 := by omega
    rw [e, sq_and256 hb (by decide), sq_t1 _ (by omega) _ (by omega)]
    have l1 : (x / 256 / 2 &&& sq_bm 85 k) ≤ x / 256 / 2 := Nat.and_le_left
    have l2 : (x % 256 / 2 &&& 85) ≤ x % 256 / 2 := Nat.and_le_left
    show _ = 256 * (x / 256 - (x / 256 / 2 &&& sq_bm 85 k)) + (x % 256 - (x % 256 / 2 &&& 85))
    generalize (x / 256 / 2 &&& sq_bm 85 k) = u at l1 ⊢
    generalize (x % 256 / 2 &&& 85) = v at l2 ⊢
    omega
theorem sq_pb2 : ∀ k x, (sq_by sq_f1 x k &&& sq_bm 51 k) + (sq_by sq_f1 x k / 4 &&& sq_bm 51 k) = sq_by sq_f2 x k := by
  intro k
  induction k with
  | zero => intro x; show (0 &&& 0) + (0 / 4 &&& 0) = 0; decide
  | succ k ih =>
    intro x
    show ((256 * sq_by sq_f1 (x / 256) k + sq_f1 (x % 256)) &&& (256 * sq_bm 51 k + 51)) + ((256 * sq_by sq_f1 (x / 256) k + sq_f1 (x % 256)) / 4 &&& (256 * sq_bm 51 k + 51)) = 256 * sq_by sq_f2 (x / 256) k + sq_f2 (x % 256)
    rw [← ih (x / 256)]
    have hf := (sq_t1b (x % 256) (by omega)).1
    show _ = _ + ((sq_f1 (x % 256) &&& 51) + (sq_f1 (x % 256) / 4 &&& 51))
    generalize sq_f1 (x % 256) = b at hf ⊢
    generalize sq_by sq_f1 (x / 256) k = y
    have e : (256 * y + b) / 4 = 256 * (y / 4) + (64 * (y % 4) + b / 4) := by omega
    rw [e, sq_and256 hf (by decide), sq_and256 (by omega) (by decide), sq_t2 _ (by omega) _ hf]
    omega
theorem sq_by16 (x : Nat) : ∀ k, sq_by sq_f2 x k % 16 ≤ 4 := by
  intro k
  cases k with
  | zero => exact Nat.zero_le _
  | succ k =>
    show (256 * sq_by sq_f2 (x / 256) k + sq_f2 (x % 256)) % 16 ≤ 4
    have := (sq_t1b (x % 256) (by omega)).2.1
    omega
theorem sq_pb3 : ∀ k x, ((sq_by sq_f2 x k + sq_by sq_f2 x k / 16) &&& sq_bm 15 k) = sq_by sq_f3 x k := by
  intro k
  induction k with
  | zero => intro x; show ((0 + 0 / 16) &&& 0) = 0; decide
  | succ k ih =>
    intro x
    show ((256 * sq_by sq_f2 (x / 256) k + sq_f2 (x % 256)) + (256 * sq_by sq_f2 (x / 256) k + sq_f2 (x % 256)) / 16 &&& (256 * sq_bm 15 k + 15)) = 256 * sq_by sq_f3 (x / 256) k + sq_f3 (x % 256)
    rw [← ih (x / 256)]
    have hf := (sq_t1b (x % 256) (by omega)).2.2.1
    have hy := sq_by16 (x / 256) k
    show _ = _ + ((sq_f2 (x % 256) + sq_f2 (x % 256) / 16) &&& 15)
    generalize sq_f2 (x % 256) = b at hf ⊢
    generalize sq_by sq_f2 (x / 256) k = y at hy ⊢
    have e : (256 * y + b) + (256 * y + b) / 16 = 256 * (y + y / 16) + (16 * (y % 16) + (b + b / 16)) := by omega
    rw [e, sq_and256 (by omega) (by decide), sq_t3 _ (by omega) _ hf]
/-- the sum of the k low bytes of x, each by f -/
def sq_sm (f : Nat → Nat) (x : Nat) : Nat → Nat
  | 0 => 0
  | k + 1 => sq_sm f (x / 256) k + f (x % 256)
theorem sq_t4 : ∀ b, b < 256 → sq_f3 b = sq_c (fun q => b.testBit q) 8 := by decide +kernel
theorem sq_pb4 : ∀ k x, sq_sm sq_f3 x k = sq_c (fun q => x.testBit q) (8 * k) := by
  intro k
  induction k with
  | zero => intro x; rfl
  | succ k ih =>
    intro x
    show sq_sm sq_f3 (x / 256) k + sq_f3 (x % 256) = _
    rw [ih, show 8 * (k + 1) = 8 + 8 * k by omega, sq_cadd, sq_t4 _ (by omega)]
    have e1 : sq_c (fun q => (x % 256).testBit q) 8 = sq_c (fun q => x.testBit q) 8 := sq_ccg 8 (fun j hj => by
      show (x % 2 ^ 8).testBit j = x.testBit j
      rw [Nat.testBit_mod_two_pow]; simp [hj])
    have e2 : sq_c (fun q => (x / 256).testBit q) (8 * k) = sq_c (fun q => x.testBit (8 + q)) (8 * k) := sq_ccg _ (fun j _ => by
      show (x / 2 ^ 8).testBit j = x.testBit (8 + j)
      rw [Nat.testBit_div_two_pow, Nat.add_comm])
    rw [e1, e2]
    omega
theorem sq_h8 {c0 c1 c2 c3 c4 c5 c6 c7 : Nat} (h0 : c0 ≤ 8) (h1 : c1 ≤ 8) (h2 : c2 ≤ 8) (h3 : c3 ≤ 8) (h4 : c4 ≤ 8) (h5 : c5 ≤ 8) (h6 : c6 ≤ 8) (h7 : c7 ≤ 8) :
    (c0 + 256 * (c1 + 256 * (c2 + 256 * (c3 + 256 * (c4 + 256 * (c5 + 256 * (c6 + 256 * c7))))))) * 72340172838076673 % 2 ^ 64 / 2 ^ 56 = c0 + c1 + c2 + c3 + c4 + c5 + c6 + c7 := by
  have e : (c0 + 256 * (c1 + 256 * (c2 + 256 * (c3 + 256 * (c4 + 256 * (c5 + 256 * (c6 + 256 * c7))))))) * 72340172838076673 = 18446744073709551616 * (1 * (c1 + c2 + c3 + c4 + c5 + c6 + c7) + 256 * (c2 + c3 + c4 + c5 + c6 + c7) + 65536 * (c3 + c4 + c5 + c6 + c7) + 16777216 * (c4 + c5 + c6 + c7) + 4294967296 * (c5 + c6 + c7) + 1099511627776 * (c6 + c7) + 281474976710656 * (c7)) + (72057594037927936 * (c0 + c1 + c2 + c3 + c4 + c5 + c6 + c7) + (1 * (c0) + 256 * (c0 + c1) + 65536 * (c0 + c1 + c2) + 16777216 * (c0 + c1 + c2 + c3) + 4294967296 * (c0 + c1 + c2 + c3 + c4) + 1099511627776 * (c0 + c1 + c2 + c3 + c4 + c5) + 281474976710656 * (c0 + c1 + c2 + c3 + c4 + c5 + c6))) := by omega
  have hR : 1 * (c0) + 256 * (c0 + c1) + 65536 * (c0 + c1 + c2) + 16777216 * (c0 + c1 + c2 + c3) + 4294967296 * (c0 + c1 + c2 + c3 + c4) + 1099511627776 * (c0 + c1 + c2 + c3 + c4 + c5) + 281474976710656 * (c0 + c1 + c2 + c3 + c4 + c5 + c6) < 72057594037927936 := by omega
  have hS : c0 + c1 + c2 + c3 + c4 + c5 + c6 + c7 ≤ 64 := by omega
  rw [e, show (2 : Nat) ^ 64 = 18446744073709551616 from rfl, show (2 : Nat) ^ 56 = 72057594037927936 from rfl, Nat.mul_add_mod]
  generalize 1 * (c0) + 256 * (c0 + c1) + 65536 * (c0 + c1 + c2) + 16777216 * (c0 + c1 + c2 + c3) + 4294967296 * (c0 + c1 + c2 + c3 + c4) + 1099511627776 * (c0 + c1 + c2 + c3 + c4 + c5) + 281474976710656 * (c0 + c1 + c2 + c3 + c4 + c5 + c6) = r at hR ⊢
  generalize c0 + c1 + c2 + c3 + c4 + c5 + c6 + c7 = t at hS ⊢
  omega
theorem sq_by8 (x : Nat) : ∃ c0 c1 c2 c3 c4 c5 c6 c7 : Nat, c0 ≤ 8 ∧ c1 ≤ 8 ∧ c2 ≤ 8 ∧ c3 ≤ 8 ∧ c4 ≤ 8 ∧ c5 ≤ 8 ∧ c6 ≤ 8 ∧ c7 ≤ 8 ∧
    sq_by sq_f3 x 8 = c0 + 256 * (c1 + 256 * (c2 + 256 * (c3 + 256 * (c4 + 256 * (c5 + 256 * (c6 + 256 * c7)))))) ∧
    sq_sm sq_f3 x 8 = c0 + c1 + c2 + c3 + c4 + c5 + c6 + c7 := by
  have B : ∀ y, sq_f3 (y % 256) ≤ 8 := fun y => (sq_t1b (y % 256) (by omega)).2.2.2
  refine ⟨_, _, _, _, _, _, _, _, B x, B (x / 256), B (x / 256 / 256), B (x / 256 / 256 / 256), B (x / 256 / 256 / 256 / 256), B (x / 256 / 256 / 256 / 256 / 256), B (x / 256 / 256 / 256 / 256 / 256 / 256), B (x / 256 / 256 / 256 / 256 / 256 / 256 / 256), ?_, ?_⟩
  · simp only [sq_by]; omega
  · simp only [sq_sm]; omega
theorem sq_m85 : sq_bm 85 8 = 6148914691236517205 := by decide +kernel
theorem sq_m51 : sq_bm 51 8 = 3689348814741910323 := by decide +kernel
theorem sq_m15 : sq_bm 15 8 = 1085102592571150095 := by decide +kernel
/-- what onesIn reckons, over Nat -/
def sq_q1 (x : Nat) : Nat := x - (x / 2 &&& 6148914691236517205)
def sq_q2 (p : Nat) : Nat := (p &&& 3689348814741910323) + (p / 4 &&& 3689348814741910323)
def sq_q3 (f : Nat) : Nat := (f + f / 16) &&& 1085102592571150095
theorem sq_pop {x : Nat} (hx : x < 2 ^ 64) : sq_q3 (sq_q2 (sq_q1 x)) * 72340172838076673 % 2 ^ 64 / 2 ^ 56 = sq_c (fun q => x.testBit q) 64 := by
  have e1 : sq_q1 x = sq_by sq_f1 x 8 := by
    have h := sq_pb1 8 x (by omega)
    rw [sq_m85] at h
    exact h
  have e2 : sq_q2 (sq_by sq_f1 x 8) = sq_by sq_f2 x 8 := by
    have h := sq_pb2 8 x
    rw [sq_m51] at h
    exact h
  have e3 : sq_q3 (sq_by sq_f2 x 8) = sq_by sq_f3 x 8 := by
    have h := sq_pb3 8 x
    rw [sq_m15] at h
    exact h
  obtain ⟨c0, c1, c2, c3, c4, c5, c6, c7, h0, h1, h2, h3, h4, h5, h6, h7, hb, hs⟩ := sq_by8 x
  rw [e1, e2, e3, hb, sq_h8 h0 h1 h2 h3 h4 h5 h6 h7, ← hs]
  exact sq_pb4 8 x
end
section
-- Part 03: Tree and matrix: the arithmetic of nodes.
/-- the places before i whose letter begins with the bits p at level l (l = 0: all; l = 3: the letter itself) -/
def sq_p (L : Nat → Nat) (l p : Nat) : Nat → Nat := sq_c (fun q => decide (L q / 2 ^ (3 - l) = p))
theorem sq_pt {L : Nat → Nat} {l p q : Nat} (h : L q / 2 ^ (3 - l) = p) : sq_p L l p (q + 1) = sq_p L l p q + 1 := sq_ct (by simpa using h)
theorem sq_pf {L : Nat → Nat} {l p q : Nat} (h : ¬ L q / 2 ^ (3 - l) = p) : sq_p L l p (q + 1) = sq_p L l p q := sq_cf (by simpa using h)
theorem sq_ple (L : Nat → Nat) (l p i : Nat) : sq_p L l p i ≤ i := sq_cle _ i
theorem sq_pmono (L : Nat → Nat) (l p : Nat) {i j : Nat} (h : i ≤ j) : sq_p L l p i ≤ sq_p L l p j := sq_cmono _ h
theorem sq_pp (v : Nat) : ∀ l, l < 3 → v / 2 ^ (3 - (l + 1)) = 2 * (v / 2 ^ (3 - l)) + v / 2 ^ (2 - l) % 2 := by
  intro l hl
  match l, hl with
  | 0, _ => show v / 2 ^ 2 = 2 * (v / 2 ^ 3) + v / 2 ^ 2 % 2; omega
  | 1, _ => show v / 2 ^ 1 = 2 * (v / 2 ^ 2) + v / 2 ^ 1 % 2; omega
  | 2, _ => show v / 2 ^ 0 = 2 * (v / 2 ^ 1) + v / 2 ^ 0 % 2; omega
/-- a node's places are those of its two children -/
theorem sq_p2 (L : Nat → Nat) {l : Nat} (hl : l < 3) (p : Nat) : ∀ i, sq_p L l p i = sq_p L (l + 1) (2 * p) i + sq_p L (l + 1) (2 * p + 1) i := by
  intro i
  induction i with
  | zero => rfl
  | succ i ih =>
    have e := sq_pp (L i) l hl
    by_cases h : L i / 2 ^ (3 - l) = p
    · rw [sq_pt h]
      by_cases h1 : L i / 2 ^ (2 - l) % 2 = 1
      · rw [sq_pf (l := l + 1) (p := 2 * p) (by omega), sq_pt (l := l + 1) (p := 2 * p + 1) (by omega)]; omega
      · rw [sq_pt (l := l + 1) (p := 2 * p) (by omega), sq_pf (l := l + 1) (p := 2 * p + 1) (by omega)]; omega
    · rw [sq_pf h, sq_pf (l := l + 1) (p := 2 * p) (by omega), sq_pf (l := l + 1) (p := 2 * p + 1) (by omega)]; exact ih
/-- row l holds, from slot st p on, the bits of node p -/
def sq_Row (L : Nat → Nat) (n l : Nat) (st : Nat → Nat) (R : Nat → Bool) : Prop :=
  ∀ q, q < n → R (256 * l + (st (L q / 2 ^ (3 - l)) + sq_p L l (L q / 2 ^ (3 - l)) q)) = decide (L q / 2 ^ (2 - l) % 2 = 1)
/-- the ones before a slot of row l -/
def sq_o (R : Nat → Bool) (l s : Nat) : Nat := sq_c (fun t => R (256 * l + t)) s
theorem sq_rowones {L : Nat → Nat} {n l : Nat} {st : Nat → Nat} {R : Nat → Bool} (hl : l < 3) (H : sq_Row L n l st R) (p : Nat) :
    ∀ i, i ≤ n → sq_o R l (st p + sq_p L l p i) = sq_o R l (st p) + sq_p L (l + 1) (2 * p + 1) i := by
  intro i
  induction i with
  | zero => intro _; rfl
  | succ i ih =>
    intro hi
    have ih' := ih (by omega)
    have e := sq_pp (L i) l hl
    by_cases h : L i / 2 ^ (3 - l) = p
    · have b := H i (by omega)
      rw [h] at b
      rw [sq_pt h, ← Nat.add_assoc]
      by_cases h1 : L i / 2 ^ (2 - l) % 2 = 1
      · rw [sq_pt (l := l + 1) (p := 2 * p + 1) (by omega)]
        have : sq_o R l (st p + sq_p L l p i + 1) = sq_o R l (st p + sq_p L l p i) + 1 := sq_ct (by rw [b]; simpa using h1)
        omega
      · rw [sq_pf (l := l + 1) (p := 2 * p + 1) (by omega)]
        have : sq_o R l (st p + sq_p L l p i + 1) = sq_o R l (st p + sq_p L l p i) := sq_cf (by rw [b]; simpa using h1)
        omega
    · rw [sq_pf h, sq_pf (l := l + 1) (p := 2 * p + 1) (by omega)]
      exact ih'
/-- the start of node p in the tree's row l -/
def sq_st (L : Nat → Nat) (n l : Nat) : Nat → Nat
  | 0 => 0
  | p + 1 => sq_st L n l p + sq_p L l p n
theorem sq_st2 (L : Nat → Nat) (n : Nat) {l : Nat} (hl : l < 3) : ∀ p, sq_st L n (l + 1) (2 * p) = sq_st L n l p := by
  intro p
  induction p with
  | zero => rfl
  | succ p ih =>
    show sq_st L n (l + 1) (2 * p) + sq_p L (l + 1) (2 * p) n + sq_p L (l + 1) (2 * p + 1) n = sq_st L n l p + sq_p L l p n
    rw [ih, sq_p2 L hl p n]; omega
theorem sq_st3 (L : Nat → Nat) (n : Nat) {l : Nat} (hl : l < 3) (p : Nat) : sq_st L n (l + 1) (2 * p + 1) = sq_st L n l p + sq_p L (l + 1) (2 * p) n := by
  show sq_st L n (l + 1) (2 * p) + sq_p L (l + 1) (2 * p) n = _
  rw [sq_st2 L n hl p]
/-- all nodes together have no more than n places -/
theorem sq_stlt (L : Nat → Nat) (n l : Nat) : ∀ p, sq_st L n l p = sq_c (fun q => decide (L q / 2 ^ (3 - l) < p)) n := by
  intro p
  induction p with
  | zero => exact (sq_cnone n (fun j _ => by simp)).symm
  | succ p ih =>
    show sq_st L n l p + sq_p L l p n = _
    rw [ih, sq_cspl (fun q => decide (L q / 2 ^ (3 - l) < p + 1)) (fun q => decide (L q / 2 ^ (3 - l) < p)) n]
    congr 1
    · exact sq_ccg n (fun j _ => by by_cases h : L j / 2 ^ (3 - l) < p <;> simp [h] <;> omega)
    · exact sq_ccg n (fun j _ => by
        by_cases h : L j / 2 ^ (3 - l) = p
        · simp [h]
        · by_cases h2 : L j / 2 ^ (3 - l) < p
          · simp [h2]; omega
          · simp [h, h2]; omega)
theorem sq_stle (L : Nat → Nat) (n l p : Nat) : sq_st L n l p ≤ n := by rw [sq_stlt]; exact sq_cle _ n
theorem sq_sten (L : Nat → Nat) (n l p : Nat) : sq_st L n l p + sq_p L l p n ≤ n := sq_stle L n l (p + 1)
/-- a step of treeRank and treeLetter: ones within the node, and where its right child begins -/
theorem sq_tstep {L : Nat → Nat} {n l : Nat} {R : Nat → Bool} (hl : l < 3) (H : sq_Row L n l (sq_st L n l) R) (p : Nat) {i : Nat} (hi : i ≤ n) :
    sq_o R l (sq_st L n l p + sq_p L l p i) = sq_o R l (sq_st L n l p) + sq_p L (l + 1) (2 * p + 1) i
    ∧ sq_st L n l p + sq_p L l p n - (sq_o R l (sq_st L n l p + sq_p L l p n) - sq_o R l (sq_st L n l p)) = sq_st L n (l + 1) (2 * p + 1)
    ∧ sq_p L l p i - sq_p L (l + 1) (2 * p + 1) i = sq_p L (l + 1) (2 * p) i := by
  have a := sq_rowones hl H p i hi
  have b := sq_rowones hl H p n (Nat.le_refl n)
  have c := sq_st3 L n hl p
  have d := sq_p2 L hl p n
  have e := sq_p2 L hl p i
  refine ⟨a, ?_, ?_⟩ <;> omega
-- ---- matrix: node order 0 | 0, 1 | 0, 2, 1, 3 ----
def sq_mst (L : Nat → Nat) (n l p : Nat) : Nat :=
  if l = 2 then (if p = 0 then 0 else if p = 2 then sq_p L 2 0 n else if p = 1 then sq_p L 2 0 n + sq_p L 2 2 n else sq_p L 2 0 n + sq_p L 2 2 n + sq_p L 2 1 n)
  else if p = 0 then 0 else sq_p L 1 0 n
/-- the zeros of row l: the letters whose bit is 0 -/
def sq_mz (L : Nat → Nat) (n : Nat) (l : Nat) : Nat :=
  if l = 0 then sq_p L 1 0 n else if l = 1 then sq_p L 2 0 n + sq_p L 2 2 n else sq_p L 3 0 n + sq_p L 3 2 n + sq_p L 3 4 n + sq_p L 3 6 n
theorem sq_p0 {L : Nat → Nat} (hL : ∀ j, L j < 8) : ∀ n, sq_p L 0 0 n = n := fun n => sq_call n (fun j _ => by
  have := hL j
  show decide (L j / 2 ^ 3 = 0) = true
  exact decide_eq_true (by omega))
/-- the step of matrixRank and matrixLetter from node p of row l to its children, l = 0, 1 -/
theorem sq_mstep {L : Nat → Nat} {n l : Nat} {R : Nat → Bool} (hl : l < 2) (H : sq_Row L n l (sq_mst L n l) R) {p : Nat} (hp : p < 2 ^ l) {i : Nat} (hi : i ≤ n) :
    sq_mst L n l p + sq_p L l p i - sq_o R l (sq_mst L n l p + sq_p L l p i) = sq_mst L n (l + 1) (2 * p) + sq_p L (l + 1) (2 * p) i
    ∧ sq_o R l (sq_mst L n l p + sq_p L l p i) ≤ sq_mst L n l p + sq_p L l p i
    ∧ sq_mz L n l + sq_o R l (sq_mst L n l p + sq_p L l p i) = sq_mst L n (l + 1) (2 * p + 1) + sq_p L (l + 1) (2 * p + 1) i := by
  have a := sq_rowones (show l < 3 by omega) H p i hi
  have b := sq_rowones (show l < 3 by omega) H 0 n (Nat.le_refl n)
  have c := sq_p2 L (show l < 3 by omega) p i
  have d := sq_p2 L (show l < 3 by omega) 0 n
  have z : sq_o R l (sq_mst L n l p + sq_p L l p i) ≤ sq_mst L n l p + sq_p L l p i := sq_cle (fun t => R (256 * l + t)) (sq_mst L n l p + sq_p L l p i)
  have hl' : l = 0 ∨ l = 1 := by omega
  rcases hl' with rfl | rfl
  · have hp' : p = 0 := by
      have : (2 : Nat) ^ 0 = 1 := rfl
      omega
    subst hp'
    have a' : sq_o R 0 (0 + sq_p L 0 0 i) = 0 + sq_p L 1 1 i := a
    have c' : sq_p L 0 0 i = sq_p L 1 0 i + sq_p L 1 1 i := c
    have z' : sq_o R 0 (0 + sq_p L 0 0 i) ≤ 0 + sq_p L 0 0 i := z
    show 0 + sq_p L 0 0 i - sq_o R 0 (0 + sq_p L 0 0 i) = 0 + sq_p L 1 0 i ∧ sq_o R 0 (0 + sq_p L 0 0 i) ≤ 0 + sq_p L 0 0 i ∧ sq_p L 1 0 n + sq_o R 0 (0 + sq_p L 0 0 i) = sq_p L 1 0 n + sq_p L 1 1 i
    refine ⟨?_, z', ?_⟩ <;> omega
  · have b' : sq_o R 1 (0 + sq_p L 1 0 n) = 0 + sq_p L 2 1 n := b
    have d' : sq_p L 1 0 n = sq_p L 2 0 n + sq_p L 2 1 n := d
    rw [Nat.zero_add] at b'
    have hp' : p = 0 ∨ p = 1 := by
      have : (2 : Nat) ^ 1 = 2 := rfl
      omega
    rcases hp' with rfl | rfl
    · have a' : sq_o R 1 (0 + sq_p L 1 0 i) = 0 + sq_p L 2 1 i := a
      have c' : sq_p L 1 0 i = sq_p L 2 0 i + sq_p L 2 1 i := c
      have z' : sq_o R 1 (0 + sq_p L 1 0 i) ≤ 0 + sq_p L 1 0 i := z
      show 0 + sq_p L 1 0 i - sq_o R 1 (0 + sq_p L 1 0 i) = 0 + sq_p L 2 0 i ∧ sq_o R 1 (0 + sq_p L 1 0 i) ≤ 0 + sq_p L 1 0 i ∧ sq_p L 2 0 n + sq_p L 2 2 n + sq_o R 1 (0 + sq_p L 1 0 i) = sq_p L 2 0 n + sq_p L 2 2 n + sq_p L 2 1 i
      refine ⟨?_, z', ?_⟩ <;> omega
    · have a' : sq_o R 1 (sq_p L 1 0 n + sq_p L 1 1 i) = sq_o R 1 (sq_p L 1 0 n) + sq_p L 2 3 i := a
      have c' : sq_p L 1 1 i = sq_p L 2 2 i + sq_p L 2 3 i := c
      have z' : sq_o R 1 (sq_p L 1 0 n + sq_p L 1 1 i) ≤ sq_p L 1 0 n + sq_p L 1 1 i := z
      show sq_p L 1 0 n + sq_p L 1 1 i - sq_o R 1 (sq_p L 1 0 n + sq_p L 1 1 i) = sq_p L 2 0 n + sq_p L 2 2 i ∧ sq_o R 1 (sq_p L 1 0 n + sq_p L 1 1 i) ≤ sq_p L 1 0 n + sq_p L 1 1 i ∧ sq_p L 2 0 n + sq_p L 2 2 n + sq_o R 1 (sq_p L 1 0 n + sq_p L 1 1 i) = sq_p L 2 0 n + sq_p L 2 2 n + sq_p L 2 1 n + sq_p L 2 3 i
      refine ⟨?_, z', ?_⟩ <;> omega
/-- the last row: only the difference counts -/
theorem sq_mlast {L : Nat → Nat} {n : Nat} {R : Nat → Bool} (H : sq_Row L n 2 (sq_mst L n 2) R) (p : Nat) {i : Nat} (hi : i ≤ n) :
    sq_o R 2 (sq_mst L n 2 p + sq_p L 2 p i) = sq_o R 2 (sq_mst L n 2 p) + sq_p L 3 (2 * p + 1) i
    ∧ sq_p L 2 p i = sq_p L 3 (2 * p) i + sq_p L 3 (2 * p + 1) i :=
  ⟨sq_rowones (by decide) H p i hi, sq_p2 L (by decide) p i⟩
/-- a letter's places -/
theorem sq_p3 (L : Nat → Nat) (l i : Nat) : sq_p L 3 l i = sq_c (fun q => decide (L q = l)) i := sq_ccg i (fun j _ => by
  show decide (L j / 2 ^ 0 = l) = _
  rw [Nat.pow_zero, Nat.div_one])
/-- the bounds of the matrix's nodes -/
theorem sq_mle {L : Nat → Nat} (hL : ∀ j, L j < 8) (n : Nat) {l p : Nat} (hl : l < 3) (hp : p < 2 ^ l) : sq_mst L n l p + sq_p L l p n ≤ n := by
  have h0 := sq_p0 hL n
  have a := sq_p2 L (show 0 < 3 by omega) 0 n
  have b := sq_p2 L (show 1 < 3 by omega) 0 n
  have c := sq_p2 L (show 1 < 3 by omega) 1 n
  have a' : sq_p L 0 0 n = sq_p L 1 0 n + sq_p L 1 1 n := a
  have b' : sq_p L 1 0 n = sq_p L 2 0 n + sq_p L 2 1 n := b
  have c' : sq_p L 1 1 n = sq_p L 2 2 n + sq_p L 2 3 n := c
  have hl' : l = 0 ∨ l = 1 ∨ l = 2 := by omega
  rcases hl' with rfl | rfl | rfl
  · have hp' : p = 0 := by
      have : (2 : Nat) ^ 0 = 1 := rfl
      omega
    subst hp'
    show 0 + sq_p L 0 0 n ≤ n
    omega
  · have hp' : p = 0 ∨ p = 1 := by
      have : (2 : Nat) ^ 1 = 2 := rfl
      omega
    rcases hp' with rfl | rfl
    · show 0 + sq_p L 1 0 n ≤ n
      omega
    · show sq_p L 1 0 n + sq_p L 1 1 n ≤ n
      omega
  · have hp' : p = 0 ∨ p = 1 ∨ p = 2 ∨ p = 3 := by
      have : (2 : Nat) ^ 2 = 4 := rfl
      omega
    rcases hp' with rfl | rfl | rfl | rfl
    · show 0 + sq_p L 2 0 n ≤ n
      omega
    · show sq_p L 2 0 n + sq_p L 2 2 n + sq_p L 2 1 n ≤ n
      omega
    · show sq_p L 2 0 n + sq_p L 2 2 n ≤ n
      omega
    · show sq_p L 2 0 n + sq_p L 2 2 n + sq_p L 2 1 n + sq_p L 2 3 n ≤ n
      omega
theorem sq_mzeros {L : Nat → Nat} {n l : Nat} {R : Nat → Bool} (hL : ∀ j, L j < 8) (hl : l < 2) (H : sq_Row L n l (sq_mst L n l) R) : n - sq_o R l n = sq_mz L n l := by
  have h0 := sq_p0 hL n
  have a := sq_p2 L (show 0 < 3 by omega) 0 n
  have a' : sq_p L 0 0 n = sq_p L 1 0 n + sq_p L 1 1 n := a
  have hl' : l = 0 ∨ l = 1 := by omega
  rcases hl' with rfl | rfl
  · have r' : sq_o R 0 (0 + sq_p L 0 0 n) = 0 + sq_p L 1 1 n := sq_rowones (show 0 < 3 by omega) H 0 n (Nat.le_refl n)
    rw [h0, Nat.zero_add] at r'
    show n - sq_o R 0 n = sq_p L 1 0 n
    omega
  · have b' : sq_p L 1 0 n = sq_p L 2 0 n + sq_p L 2 1 n := sq_p2 L (show 1 < 3 by omega) 0 n
    have c' : sq_p L 1 1 n = sq_p L 2 2 n + sq_p L 2 3 n := sq_p2 L (show 1 < 3 by omega) 1 n
    have r' : sq_o R 1 (0 + sq_p L 1 0 n) = 0 + sq_p L 2 1 n := sq_rowones (show 1 < 3 by omega) H 0 n (Nat.le_refl n)
    have t' : sq_o R 1 (sq_p L 1 0 n + sq_p L 1 1 n) = sq_o R 1 (sq_p L 1 0 n) + sq_p L 2 3 n := sq_rowones (show 1 < 3 by omega) H 1 n (Nat.le_refl n)
    rw [Nat.zero_add] at r'
    rw [show sq_p L 1 0 n + sq_p L 1 1 n = n by omega] at t'
    show n - sq_o R 1 n = sq_p L 2 0 n + sq_p L 2 2 n
    omega
-- ---- filling the nodes of a row in an order ----
/-- where group g of row l begins, the groups in the order o -/
def sq_sg (L : Nat → Nat) (n l : Nat) (o : Nat → Nat) : Nat → Nat
  | 0 => 0
  | g + 1 => sq_sg L n l o g + sq_p L l (o g) n
theorem sq_sgst (L : Nat → Nat) (n l : Nat) : ∀ g, sq_sg L n l (fun g => g) g = sq_st L n l g := by
  intro g
  induction g with
  | zero => rfl
  | succ g ih => show sq_sg L n l (fun g => g) g + _ = sq_st L n l g + _; rw [ih]
/-- a node of places so far: what fillNode has written, up to place q; bits from M on are not looked at -/
def sq_Fil (L : Nat → Nat) (l p slot M : Nat) (R0 : Nat → Bool) (q : Nat) (R : Nat → Bool) : Prop :=
  (∀ P, P < slot → R P = R0 P) ∧ (∀ P, slot + sq_p L l p q ≤ P → P < M → R P = false) ∧
  (∀ j, j < q → L j / 2 ^ (3 - l) = p → R (slot + sq_p L l p j) = decide (L j / 2 ^ (2 - l) % 2 = 1))
theorem sq_Fil0 {L : Nat → Nat} {l p slot M : Nat} {R0 : Nat → Bool} (h : ∀ P, slot ≤ P → P < M → R0 P = false) : sq_Fil L l p slot M R0 0 R0 :=
  ⟨fun _ _ => rfl, fun P hP hM => h P (by omega) hM, fun j hj => by omega⟩
theorem sq_Filn {L : Nat → Nat} {l p slot M q : Nat} {R0 R : Nat → Bool} (h : sq_Fil L l p slot M R0 q R) (hp : ¬ L q / 2 ^ (3 - l) = p) : sq_Fil L l p slot M R0 (q + 1) R := by
  refine ⟨h.1, ?_, ?_⟩
  · rw [sq_pf hp]; exact h.2.1
  · intro j hj hjp
    by_cases e : j = q
    · subst e; exact absurd hjp hp
    · exact h.2.2 j (by omega) hjp
theorem sq_Fil1 {L : Nat → Nat} {l p slot M q : Nat} {R0 R R' : Nat → Bool} (h : sq_Fil L l p slot M R0 q R) (hp : L q / 2 ^ (3 - l) = p) (hb : L q / 2 ^ (2 - l) % 2 = 1)
    (hR : ∀ P, R' P = (R P || decide (P = slot + sq_p L l p q))) : sq_Fil L l p slot M R0 (q + 1) R' := by
  refine ⟨?_, ?_, ?_⟩
  · intro P hP
    rw [hR, decide_eq_false (by omega), Bool.or_false]
    exact h.1 P hP
  · rw [sq_pt hp]
    intro P hP hM
    rw [hR, decide_eq_false (by omega), Bool.or_false]
    exact h.2.1 P (by omega) hM
  · intro j hj hjp
    rw [hR]
    by_cases e : j = q
    · subst e
      rw [decide_eq_true rfl, Bool.or_true, decide_eq_true hb]
    · have a := sq_pmono L l p (show j + 1 ≤ q by omega)
      rw [sq_pt hjp] at a
      rw [decide_eq_false (by omega), Bool.or_false]
      exact h.2.2 j (by omega) hjp
theorem sq_Fil2 {L : Nat → Nat} {l p slot M q : Nat} {R0 R : Nat → Bool} (h : sq_Fil L l p slot M R0 q R) (hp : L q / 2 ^ (3 - l) = p) (hb : ¬ L q / 2 ^ (2 - l) % 2 = 1) (hM : slot + sq_p L l p q < M) : sq_Fil L l p slot M R0 (q + 1) R := by
  refine ⟨h.1, ?_, ?_⟩
  · rw [sq_pt hp]
    intro P hP hPM
    exact h.2.1 P (by omega) hPM
  · intro j hj hjp
    by_cases e : j = q
    · subst e
      rw [h.2.1 _ (Nat.le_refl _) hM, decide_eq_false hb]
    · exact h.2.2 j (by omega) hjp
/-- row l so far: g groups are filled -/
def sq_Grp (L : Nat → Nat) (n l : Nat) (o : Nat → Nat) (g : Nat) (R : Nat → Bool) : Prop :=
  (∀ P, 256 * l + sq_sg L n l o g ≤ P → P < 768 → R P = false) ∧
  (∀ h, h < g → ∀ j, j < n → L j / 2 ^ (3 - l) = o h → R (256 * l + sq_sg L n l o h + sq_p L l (o h) j) = decide (L j / 2 ^ (2 - l) % 2 = 1))
theorem sq_sgmono (L : Nat → Nat) (n l : Nat) (o : Nat → Nat) : ∀ {h g : Nat}, h ≤ g → sq_sg L n l o h ≤ sq_sg L n l o g := by
  intro h g hg
  induction g with
  | zero => rw [show h = 0 by omega]; exact Nat.le_refl _
  | succ g ih =>
    by_cases e : h = g + 1
    · rw [e]; exact Nat.le_refl _
    · have := ih (by omega)
      show _ ≤ sq_sg L n l o g + sq_p L l (o g) n
      omega
theorem sq_Grps {L : Nat → Nat} {n l g : Nat} {o : Nat → Nat} {R R' : Nat → Bool} (H : sq_Grp L n l o g R) (F : sq_Fil L l (o g) (256 * l + sq_sg L n l o g) 768 R n R') : sq_Grp L n l o (g + 1) R' := by
  refine ⟨?_, ?_⟩
  · intro P hP hM
    exact F.2.1 P (by
      have : 256 * l + (sq_sg L n l o g + sq_p L l (o g) n) ≤ P := hP
      omega) hM
  · intro h hh j hj hp
    by_cases e : h = g
    · subst e
      exact F.2.2 j hj hp
    · rw [F.1]
      · exact H.2 h (by omega) j hj hp
      · have a := sq_sgmono L n l o (show h + 1 ≤ g by omega)
        have a' : sq_sg L n l o h + sq_p L l (o h) n ≤ sq_sg L n l o g := a
        have b := sq_pmono L l (o h) (show j + 1 ≤ n by omega)
        rw [sq_pt hp] at b
        omega
/-- rows below l aren't touched by what is written into row l -/
def sq_Up (R0 R : Nat → Bool) (l : Nat) : Prop := ∀ P, P < 256 * l → R P = R0 P
theorem sq_RowUp {L : Nat → Nat} {n l m : Nat} {st : Nat → Nat} {R0 R : Nat → Bool} (U : sq_Up R0 R m) (hl : l < m) (hst : ∀ q, q < n → st (L q / 2 ^ (3 - l)) + sq_p L l (L q / 2 ^ (3 - l)) q < 256) (H : sq_Row L n l st R0) : sq_Row L n l st R := by
  intro q hq
  have := hst q hq
  rw [U _ (by omega)]
  exact H q hq
end
section
-- Part 04: The sparse engine (Elias and Fano): kept numbers m = 256 * L q + q, q < n.
def sq_k (L : Nat → Nat) (n m : Nat) : Nat := sq_c (fun q => decide (256 * L q + q < m)) n
theorem sq_kmono (L : Nat → Nat) (n : Nat) {a b : Nat} (h : a ≤ b) : sq_k L n a ≤ sq_k L n b :=
  sq_csub (fun j hj => by simp at hj ⊢; omega) n
/-- a kept number counts, and no two places keep the same one -/
theorem sq_kt {L : Nat → Nat} {q : Nat} : ∀ n, n ≤ 256 → q < n → sq_k L n (256 * L q + q + 1) = sq_k L n (256 * L q + q) + 1 := by
  intro n
  induction n with
  | zero => intro _ h; omega
  | succ n ih =>
    intro hn hq
    unfold sq_k
    rw [sq_cs, sq_cs]
    by_cases h : q = n
    · subst h
      have e : sq_c (fun j => decide (256 * L j + j < 256 * L q + q + 1)) q = sq_c (fun j => decide (256 * L j + j < 256 * L q + q)) q :=
        sq_ccg q (fun j hj => by
          by_cases h2 : 256 * L j + j < 256 * L q + q
          · simp [h2]; omega
          · have : ¬ 256 * L j + j = 256 * L q + q := by omega
            simp [h2]; omega)
      rw [e]; simp
    · have := ih (by omega) (by omega)
      unfold sq_k at this
      rw [this]
      have : 256 * L n + n ≠ 256 * L q + q := by omega
      by_cases h2 : 256 * L n + n < 256 * L q + q
      · rw [if_pos (by simp; omega), if_pos (by simp; omega)]
      · rw [if_neg (by simp; omega), if_neg (by simp; omega)]
theorem sq_kf {L : Nat → Nat} {m : Nat} : ∀ n, (∀ q, q < n → 256 * L q + q ≠ m) → sq_k L n (m + 1) = sq_k L n m := by
  intro n h
  exact sq_ccg n (fun j hj => by
    have := h j hj
    by_cases h2 : 256 * L j + j < m
    · simp [h2]; omega
    · simp [h2]; omega)
/-- the row of the high parts -/
def sq_Hi (L : Nat → Nat) (n : Nat) (R : Nat → Bool) : Prop :=
  ∀ P, P < 512 → (R P = true ↔ ∃ q, q < n ∧ P = (256 * L q + q) / 8 + sq_k L n (256 * L q + q))
theorem sq_kep {L : Nat → Nat} {n q m : Nat} (hn : n ≤ 256) (hq : q < n) (h : 256 * L q + q < m) : sq_k L n (256 * L q + q) < sq_k L n m := by
  have a := sq_kt (L := L) n hn hq
  have b := sq_kmono L n (show 256 * L q + q + 1 ≤ m by omega)
  omega
theorem sq_kle (L : Nat → Nat) (n m : Nat) : sq_k L n m ≤ n := sq_cle _ n
/-- zero number k of the row -/
theorem sq_zero {L : Nat → Nat} {n : Nat} {R : Nat → Bool} (hn : n ≤ 200) (H : sq_Hi L n R) {k : Nat} (hk : k < 256) : R (k + sq_k L n (8 * k + 8)) = false := by
  have hb := sq_kle L n (8 * k + 8)
  cases e : R (k + sq_k L n (8 * k + 8)) with
  | false => rfl
  | true =>
    obtain ⟨q, hq, hp⟩ := (H _ (by omega)).mp e
    by_cases h : 256 * L q + q < 8 * k + 8
    · have := sq_kep (by omega) hq h
      omega
    · have := sq_kmono L n (show 8 * k + 8 ≤ 256 * L q + q by omega)
      omega
theorem sq_ones {L : Nat → Nat} {n : Nat} {R : Nat → Bool} (hn : n ≤ 200) (H : sq_Hi L n R) : ∀ m, m ≤ 2048 → sq_c R (m / 8 + sq_k L n m) = sq_k L n m := by
  intro m
  induction m with
  | zero =>
    intro _
    have : sq_k L n 0 = 0 := sq_cnone n (fun j _ => by simp)
    rw [this]; rfl
  | succ m ih =>
    intro hm
    have ih' := ih (by omega)
    have hb := sq_kle L n m
    -- first the number itself
    have A : sq_c R (m / 8 + sq_k L n (m + 1)) = sq_k L n (m + 1) := by
      by_cases h : ∃ q, q < n ∧ 256 * L q + q = m
      · obtain ⟨q, hq, rfl⟩ := h
        rw [sq_kt n (by omega) hq, ← Nat.add_assoc, sq_ct ((H _ (by omega)).mpr ⟨q, hq, rfl⟩), ih']
      · rw [sq_kf n (fun q hq e => h ⟨q, hq, e⟩)]; exact ih'
    -- then the zero behind the bucket
    by_cases h8 : (m + 1) / 8 = m / 8
    · rw [h8]; exact A
    · have e8 : (m + 1) / 8 = m / 8 + 1 := by omega
      have em : m + 1 = 8 * (m / 8) + 8 := by omega
      have z := sq_zero hn H (k := m / 8) (by omega)
      rw [← em] at z
      rw [e8, show m / 8 + 1 + sq_k L n (m + 1) = m / 8 + sq_k L n (m + 1) + 1 by omega, sq_cf z, A]
/-- before zero number k there are as many ones as numbers in the buckets up to k -/
theorem sq_zones {L : Nat → Nat} {n : Nat} {R : Nat → Bool} (hn : n ≤ 200) (H : sq_Hi L n R) {k : Nat} (hk : k < 256) : sq_c R (k + sq_k L n (8 * k + 8)) = sq_k L n (8 * k + 8) := by
  have a := sq_ones hn H (8 * k + 8) (by omega)
  have z := sq_zero hn H hk
  rw [show (8 * k + 8) / 8 + sq_k L n (8 * k + 8) = k + sq_k L n (8 * k + 8) + 1 by omega, sq_cf z] at a
  exact a
/-- if index lies between, a kept number has it -/
theorem sq_kiv {L : Nat → Nat} {n x : Nat} (hn : n ≤ 256) {a : Nat} : ∀ b, sq_k L n a ≤ x → x < sq_k L n b → ∃ q, q < n ∧ a ≤ 256 * L q + q ∧ 256 * L q + q < b ∧ sq_k L n (256 * L q + q) = x := by
  intro b
  induction b with
  | zero => intro _ h2; have := sq_kmono L n (Nat.zero_le a); omega
  | succ b ih =>
    intro h1 h2
    by_cases h : ∃ q, q < n ∧ 256 * L q + q = b
    · obtain ⟨q, hq, rfl⟩ := h
      have t := sq_kt (L := L) n hn hq
      by_cases h3 : x < sq_k L n (256 * L q + q)
      · obtain ⟨q', a1, a2, a3, a4⟩ := ih h1 h3
        exact ⟨q', a1, a2, by omega, a4⟩
      · refine ⟨q, hq, ?_, by omega, by omega⟩
        by_cases h4 : a ≤ 256 * L q + q
        · exact h4
        · have := sq_kmono L n (show 256 * L q + q + 1 ≤ a by omega)
          omega
    · rw [sq_kf n (fun q hq e => h ⟨q, hq, e⟩)] at h2
      obtain ⟨q', a1, a2, a3, a4⟩ := ih h1 h2
      exact ⟨q', a1, a2, by omega, a4⟩
/-- a step of the scan within bucket b = m / 8: index x so far -/
theorem sq_scan1 {L : Nat → Nat} {n : Nat} {R : Nat → Bool} (hn : n ≤ 200) (H : sq_Hi L n R) {m x : Nat} (hm : m < 2048) (h1 : sq_k L n (8 * (m / 8)) ≤ x) (h2 : x ≤ sq_k L n m)
    (hR : R (m / 8 + x) = true) : ∃ q, q < n ∧ (256 * L q + q) / 8 = m / 8 ∧ sq_k L n (256 * L q + q) = x := by
  have hb := sq_kle L n m
  obtain ⟨q, hq, hp⟩ := (H _ (by omega)).mp hR
  have A : ¬ 256 * L q + q < 8 * (m / 8) := fun h => by
    have := sq_kep (show n ≤ 256 by omega) hq h
    omega
  have B : ¬ 8 * (m / 8) + 8 ≤ 256 * L q + q := fun h => by
    have c1 := sq_kmono L n h
    have c2 := sq_kmono L n (show m ≤ 8 * (m / 8) + 8 by omega)
    omega
  exact ⟨q, hq, by omega, by omega⟩
theorem sq_scan0 {L : Nat → Nat} {n : Nat} {R : Nat → Bool} (hn : n ≤ 200) (H : sq_Hi L n R) {m x : Nat} (hm : m < 2048) (h1 : sq_k L n (8 * (m / 8)) ≤ x) (h2 : x ≤ sq_k L n m)
    (hR : R (m / 8 + x) = false) : x = sq_k L n m := by
  have hb := sq_kle L n m
  by_cases h : x < sq_k L n m
  · obtain ⟨q, hq, a1, a2, a3⟩ := sq_kiv (show n ≤ 256 by omega) m h1 h
    have : R (m / 8 + x) = true := (H _ (by omega)).mpr ⟨q, hq, by omega⟩
    rw [hR] at this
    exact absurd this (by decide)
  · omega
theorem sq_kstep {L : Nat → Nat} {n : Nat} (hn : n ≤ 256) : ∀ d a, sq_k L n (a + d) ≤ sq_k L n a + d := by
  intro d
  induction d with
  | zero => intro a; exact Nat.le_refl _
  | succ d ih =>
    intro a
    have := ih a
    rw [← Nat.add_assoc]
    by_cases h : ∃ q, q < n ∧ 256 * L q + q = a + d
    · obtain ⟨q, hq, e⟩ := h
      rw [← e, sq_kt n hn hq, e]; omega
    · rw [sq_kf n (fun q hq e => h ⟨q, hq, e⟩)]; omega
/-- the numbers from letter * 256 on, below letter * 256 + i: the letter's places before i -/
theorem sq_krank {L : Nat → Nat} {n l i : Nat} (hn : n ≤ 200) (hi : i ≤ n) : sq_k L n (256 * l + i) = sq_k L n (256 * l) + sq_c (fun q => decide (L q = l)) i := by
  induction i with
  | zero => rfl
  | succ i ih =>
    have ih' := ih (by omega)
    rw [← Nat.add_assoc]
    by_cases h : L i = l
    · rw [sq_ct (by simpa using h)]
      have := sq_kt (L := L) (q := i) n (by omega) (by omega)
      rw [h] at this
      omega
    · rw [sq_cf (by simpa using h), sq_kf n (fun q hq e => h (by
        have : q = i := by omega
        subst this; omega))]
      exact ih'
end
section
-- Part 05: The code engine: lengths by joining groups (Kraft), canonical words, reading.
def sq_s (f : Nat → Nat) : Nat → Nat
  | 0 => 0
  | i + 1 => sq_s f i + f i
theorem sq_ss (f : Nat → Nat) (i : Nat) : sq_s f (i + 1) = sq_s f i + f i := rfl
theorem sq_scg {f g : Nat → Nat} : ∀ i, (∀ j, j < i → f j = g j) → sq_s f i = sq_s g i := by
  intro i
  induction i with
  | zero => intro _; rfl
  | succ i ih => intro h; rw [sq_ss, sq_ss, ih (fun j hj => h j (by omega)), h i (by omega)]
theorem sq_sadd (f g : Nat → Nat) : ∀ i, sq_s (fun j => f j + g j) i = sq_s f i + sq_s g i := by
  intro i
  induction i with
  | zero => rfl
  | succ i ih => rw [sq_ss, sq_ss, sq_ss, ih]; omega
theorem sq_smul (c : Nat) (f : Nat → Nat) : ∀ i, sq_s (fun j => c * f j) i = c * sq_s f i := by
  intro i
  induction i with
  | zero => rfl
  | succ i ih => rw [sq_ss, sq_ss, ih, Nat.mul_add]
theorem sq_sle {f g : Nat → Nat} : ∀ i, (∀ j, j < i → f j ≤ g j) → sq_s f i ≤ sq_s g i := by
  intro i
  induction i with
  | zero => intro _; exact Nat.le_refl _
  | succ i ih =>
    intro h
    have a := ih (fun j hj => h j (by omega))
    have b := h i (by omega)
    rw [sq_ss, sq_ss]; omega
theorem sq_s0 {f : Nat → Nat} : ∀ i, (∀ j, j < i → f j = 0) → sq_s f i = 0 := by
  intro i
  induction i with
  | zero => intro _; rfl
  | succ i ih => intro h; rw [sq_ss, ih (fun j hj => h j (by omega)), h i (by omega)]
theorem sq_s1 {f : Nat → Nat} {a : Nat} : ∀ i, a < i → f a ≤ sq_s f i := by
  intro i
  induction i with
  | zero => intro h; omega
  | succ i ih =>
    intro h
    rw [sq_ss]
    by_cases e : a = i
    · subst e; omega
    · have := ih (by omega); omega
/-- after j joins: groups, weights, lengths -/
def sq_HI (cnt len gr w : Nat → Nat) (j : Nat) : Prop :=
  (∀ l, l < 8 → gr l < 8 ∧ len l ≤ j ∧ (cnt l = 0 → len l = 0 ∧ gr l = l ∧ w l = 0)) ∧
  (∀ g, g < 8 → w g = sq_s (fun l => if gr l = g then cnt l else 0) 8) ∧
  (∀ g, g < 8 → 0 < w g → sq_s (fun l => if gr l = g then 2 ^ (7 - len l) else 0) 8 = 128)
def sq_jl (len gr : Nat → Nat) (f s : Nat) : Nat → Nat := fun l => if gr l = f ∨ gr l = s then len l + 1 else len l
def sq_jg (gr : Nat → Nat) (f s : Nat) : Nat → Nat := fun l => if gr l = f ∨ gr l = s then f else gr l
def sq_jw (w : Nat → Nat) (f s : Nat) : Nat → Nat := fun g => if g = s then 0 else if g = f then w f + w s else w g
theorem sq_HIj {cnt len gr w : Nat → Nat} {j f s : Nat} (H : sq_HI cnt len gr w j) (hj : j < 7) (hf : f < 8) (hs : s < 8) (ne : f ≠ s) (lf : 0 < w f) (ls : 0 < w s) :
    sq_HI cnt (sq_jl len gr f s) (sq_jg gr f s) (sq_jw w f s) (j + 1) := by
  obtain ⟨h1, h2, h3⟩ := H
  refine ⟨?_, ?_, ?_⟩
  · intro l hl
    obtain ⟨a, b, c⟩ := h1 l hl
    unfold sq_jl sq_jg sq_jw
    refine ⟨?_, ?_, ?_⟩
    · split <;> omega
    · split <;> omega
    · intro hc
      obtain ⟨c1, c2, c3⟩ := c hc
      have n1 : l ≠ f := fun e => by subst e; omega
      have n2 : l ≠ s := fun e => by subst e; omega
      have n3 : ¬ (gr l = f ∨ gr l = s) := by rw [c2]; omega
      rw [if_neg n3, if_neg n3, if_neg n2, if_neg n1]
      exact ⟨c1, c2, c3⟩
  · intro g hg
    unfold sq_jg sq_jw
    by_cases e1 : g = s
    · rw [if_pos e1]
      refine (sq_s0 8 (fun l _ => ?_)).symm
      by_cases e2 : gr l = f ∨ gr l = s
      · rw [if_pos e2, if_neg (by omega)]
      · rw [if_neg e2, if_neg (by omega)]
    · rw [if_neg e1]
      by_cases e3 : g = f
      · rw [if_pos e3, h2 f hf, h2 s hs, ← sq_sadd]
        refine sq_scg 8 (fun l _ => ?_)
        by_cases a1 : gr l = f
        · rw [if_pos a1, if_neg (by omega), if_pos (Or.inl a1), if_pos e3.symm]; omega
        · by_cases a2 : gr l = s
          · rw [if_neg a1, if_pos a2, if_pos (Or.inr a2), if_pos e3.symm]; omega
          · have a3 : ¬ (gr l = f ∨ gr l = s) := fun z => z.elim a1 a2
            rw [if_neg a1, if_neg a2, if_neg a3, if_neg (show ¬ gr l = g from fun z => a1 (z.trans e3))]
      · rw [if_neg e3, h2 g hg]
        refine sq_scg 8 (fun l _ => ?_)
        by_cases a : gr l = f ∨ gr l = s
        · rw [if_pos a, if_neg (by omega), if_neg (by omega)]
        · rw [if_neg a]
  · intro g hg
    unfold sq_jw
    intro hw
    by_cases e1 : g = s
    · rw [if_pos e1] at hw; omega
    · rw [if_neg e1] at hw
      by_cases e3 : g = f
      · subst e3
        have k1 := h3 g hf lf
        have k2 := h3 s hs ls
        have k3 : 2 * sq_s (fun l => if sq_jg gr g s l = g then 2 ^ (7 - sq_jl len gr g s l) else 0) 8 = sq_s (fun l => if gr l = g then 2 ^ (7 - len l) else 0) 8 + sq_s (fun l => if gr l = s then 2 ^ (7 - len l) else 0) 8 := by
          rw [← sq_smul, ← sq_sadd]
          refine sq_scg 8 (fun l hl => ?_)
          have hb := (h1 l hl).2.1
          have pw : 2 ^ (7 - len l) = 2 * 2 ^ (7 - (len l + 1)) := by
            rw [show 7 - len l = 7 - (len l + 1) + 1 by omega, Nat.pow_succ, Nat.mul_comm]
          unfold sq_jg sq_jl
          by_cases a1 : gr l = g
          · rw [if_pos (Or.inl a1), if_pos (Or.inl a1), if_pos rfl, if_pos a1, if_neg (by omega), pw]; omega
          · by_cases a2 : gr l = s
            · rw [if_pos (Or.inr a2), if_pos (Or.inr a2), if_pos rfl, if_neg a1, if_pos a2, pw]; omega
            · have a3 : ¬ (gr l = g ∨ gr l = s) := fun z => z.elim a1 a2
              rw [if_neg a3, if_neg a3, if_neg a1, if_neg a2]
        rw [k1, k2] at k3
        omega
      · rw [if_neg e3] at hw
        rw [← h3 g hg hw]
        refine sq_scg 8 (fun l _ => ?_)
        unfold sq_jg sq_jl
        by_cases a : gr l = f ∨ gr l = s
        · rw [if_pos a, if_neg (by omega), if_neg (by omega)]
        · rw [if_neg a, if_neg a]
-- ---- canonical words ----
/-- how many words have s bits -/
def sq_n (len : Nat → Nat) (s : Nat) : Nat := sq_c (fun l => decide (len l = s)) 8
/-- the first word of s bits -/
def sq_f (len : Nat → Nat) : Nat → Nat
  | 0 => 0
  | 1 => 0
  | s + 2 => 2 * (sq_f len (s + 1) + sq_n len (s + 1))
/-- how many words have less than s bits (1 at least) -/
def sq_i (len : Nat → Nat) : Nat → Nat
  | 0 => 0
  | 1 => 0
  | s + 2 => sq_i len (s + 1) + sq_n len (s + 1)
def sq_w (len : Nat → Nat) (l : Nat) : Nat := sq_f len (len l) + sq_c (fun k => decide (len k = len l)) l
/-- Kraft's sum over the words of 1 .. s bits, in parts of 128 -/
def sq_K (len : Nat → Nat) (s : Nat) : Nat := sq_s (fun l => if 1 ≤ len l ∧ len l ≤ s then 2 ^ (7 - len l) else 0) 8
theorem sq_Ks (len : Nat → Nat) {s : Nat} : sq_K len (s + 1) = sq_K len s + sq_n len (s + 1) * 2 ^ (7 - (s + 1)) := by
  unfold sq_K sq_n
  generalize 8 = m
  induction m with
  | zero => show 0 = 0 + 0 * _; rw [Nat.zero_mul]
  | succ m ih =>
    rw [sq_ss, sq_ss, sq_cs, ih]
    by_cases h : len m = s + 1
    · rw [if_pos (by omega), if_neg (by omega), if_pos (by simpa using h), h, Nat.add_mul]; omega
    · by_cases h2 : 1 ≤ len m ∧ len m ≤ s
      · rw [if_pos (by omega), if_pos h2, if_neg (by simpa using h)]; simp only [Nat.add_zero]; omega
      · rw [if_neg (by omega), if_neg h2, if_neg (by simpa using h)]; simp only [Nat.add_zero]
theorem sq_fK (len : Nat → Nat) : ∀ s, s ≤ 6 → (sq_f len (s + 1) + sq_n len (s + 1)) * 2 ^ (7 - (s + 1)) = sq_K len (s + 1) := by
  intro s
  induction s with
  | zero =>
    intro _
    rw [sq_Ks]
    have : sq_K len 0 = 0 := sq_s0 8 (fun l _ => if_neg (by omega))
    rw [this, show sq_f len (0 + 1) = 0 from rfl]; simp
  | succ s ih =>
    intro h
    rw [sq_Ks, ← ih (by omega)]
    show (2 * (sq_f len (s + 1) + sq_n len (s + 1)) + sq_n len (s + 1 + 1)) * 2 ^ (7 - (s + 1 + 1)) = _
    rw [Nat.add_mul, show 7 - (s + 1) = 7 - (s + 1 + 1) + 1 by omega, Nat.pow_succ]
    congr 1
    generalize sq_f len (s + 1) + sq_n len (s + 1) = a
    generalize 2 ^ (7 - (s + 1 + 1)) = b
    rw [Nat.mul_comm 2 a, Nat.mul_assoc, Nat.mul_comm 2 b]
/-- all words of s bits are below 2^s -/
theorem sq_fle {len : Nat → Nat} (hK : ∀ s, s ≤ 7 → sq_K len s ≤ 128) {s : Nat} (h1 : 1 ≤ s) (h7 : s ≤ 7) : sq_f len s + sq_n len s ≤ 2 ^ s := by
  have a := sq_fK len (s - 1) (by omega)
  rw [show s - 1 + 1 = s by omega] at a
  have b := hK s h7
  rw [← a] at b
  have c : (128 : Nat) = 2 ^ s * 2 ^ (7 - s) := by rw [← Nat.pow_add, show s + (7 - s) = 7 by omega]
  rw [c] at b
  exact Nat.le_of_mul_le_mul_right b (Nat.pow_pos (by decide))
/-- a longer word begins above all words of s bits -/
theorem sq_fup (len : Nat → Nat) {s : Nat} (h1 : 1 ≤ s) : ∀ d, (sq_f len s + sq_n len s) * 2 ^ (d + 1) ≤ sq_f len (s + d + 1) := by
  intro d
  induction d with
  | zero =>
    obtain ⟨t, rfl⟩ : ∃ t, s = t + 1 := ⟨s - 1, by omega⟩
    show _ ≤ 2 * (sq_f len (t + 1) + sq_n len (t + 1))
    omega
  | succ d ih =>
    show _ ≤ 2 * (sq_f len (s + d + 1) + sq_n len (s + d + 1))
    rw [Nat.pow_succ, ← Nat.mul_assoc]
    generalize (sq_f len s + sq_n len s) * 2 ^ (d + 1) = x at ih ⊢
    omega
theorem sq_wup {len : Nat → Nat} {l s : Nat} (h1 : 1 ≤ s) (h2 : s < len l) : sq_f len s + sq_n len s ≤ sq_w len l / 2 ^ (len l - s) := by
  have a := sq_fup len h1 (len l - s - 1)
  rw [show len l - s - 1 + 1 = len l - s by omega, show s + (len l - s - 1) + 1 = len l by omega] at a
  rw [Nat.le_div_iff_mul_le (Nat.pow_pos (by decide))]
  unfold sq_w
  omega
theorem sq_wlt {len : Nat → Nat} {l : Nat} (hl : l < 8) : sq_c (fun k => decide (len k = len l)) l < sq_n len (len l) := sq_clt hl (by simp)
theorem sq_sone {f : Nat → Nat} {g : Nat} : ∀ i, g < i → sq_s (fun l => if l = g then f l else 0) i = f g := by
  intro i
  induction i with
  | zero => intro h; omega
  | succ i ih =>
    intro h
    rw [sq_ss]
    by_cases e : g = i
    · subst e
      rw [if_pos rfl, sq_s0 g (fun j hj => if_neg (by omega)), Nat.zero_add]
    · rw [ih (by omega), if_neg (by omega)]
      rfl
theorem sq_HI0 (cnt : Nat → Nat) : sq_HI cnt (fun _ => 0) (fun l => l) cnt 0 := by
  unfold sq_HI
  refine ⟨?_, ?_, ?_⟩
  · intro l hl
    exact ⟨hl, Nat.le_refl _, fun h => ⟨rfl, rfl, h⟩⟩
  · intro g hg
    exact (sq_sone (f := cnt) 8 hg).symm
  · intro g hg _
    exact sq_sone (f := fun _ => 128) 8 hg
/-- what all words together cost -/
def sq_co (cnt len : Nat → Nat) : Nat := sq_s (fun l => cnt l * len l) 8
theorem sq_coj {cnt len gr w : Nat → Nat} {j f s : Nat} (H : sq_HI cnt len gr w j) (hf : f < 8) (hs : s < 8) (ne : f ≠ s) :
    sq_co cnt (sq_jl len gr f s) = sq_co cnt len + (w f + w s) := by
  obtain ⟨_, h2, _⟩ := H
  unfold sq_co
  rw [h2 f hf, h2 s hs, ← sq_sadd, ← sq_sadd]
  refine sq_scg 8 (fun l _ => ?_)
  unfold sq_jl
  by_cases a1 : gr l = f
  · rw [if_pos (Or.inl a1), if_pos a1, if_neg (by omega), Nat.mul_add]; omega
  · by_cases a2 : gr l = s
    · rw [if_pos (Or.inr a2), if_neg a1, if_pos a2, Nat.mul_add]; omega
    · rw [if_neg (fun z => z.elim a1 a2), if_neg a1, if_neg a2]; omega
/-- the stream's length by places is the words' cost -/
theorem sq_swap (L len : Nat → Nat) (hL : ∀ j, L j < 8) : ∀ i, sq_s (fun j => len (L j)) i = sq_co (fun l => sq_c (fun q => decide (L q = l)) i) len := by
  intro i
  induction i with
  | zero =>
    refine (sq_s0 8 (fun l _ => ?_)).symm
    show 0 * len l = 0
    exact Nat.zero_mul _
  | succ i ih =>
    rw [sq_ss, ih]
    unfold sq_co
    rw [← sq_sone (f := len) 8 (hL i), ← sq_sadd]
    refine sq_scg 8 (fun l _ => ?_)
    show sq_c (fun q => decide (L q = l)) i * len l + (if l = L i then len l else 0) = sq_c (fun q => decide (L q = l)) (i + 1) * len l
    by_cases e : L i = l
    · rw [if_pos e.symm, sq_ct (decide_eq_true e), Nat.add_mul, Nat.one_mul]
    · rw [if_neg (fun z => e z.symm), sq_cf (decide_eq_false e)]; rfl
theorem sq_cnts (L : Nat → Nat) (hL : ∀ j, L j < 8) (i : Nat) : sq_s (fun l => sq_c (fun q => decide (L q = l)) i) 8 = i := by
  have a := sq_swap L (fun _ => 1) hL i
  have b : sq_s (fun _ => 1) i = i := by
    have : ∀ i, sq_s (fun _ => 1) i = i := by
      intro i
      induction i with
      | zero => rfl
      | succ i ih => rw [sq_ss, ih]
    exact this i
  have c : sq_co (fun l => sq_c (fun q => decide (L q = l)) i) (fun _ => 1) = sq_s (fun l => sq_c (fun q => decide (L q = l)) i) 8 := sq_scg 8 (fun l _ => Nat.mul_one _)
  have a' : sq_s (fun _ => 1) i = sq_co (fun l => sq_c (fun q => decide (L q = l)) i) (fun _ => 1) := a
  rw [b, c] at a'
  exact a'.symm
-- ---- where a word's letter stands among all, in the order of the words ----
theorem sq_ile (len : Nat → Nat) : ∀ s, sq_i len (s + 1) = sq_c (fun l => decide (1 ≤ len l ∧ len l ≤ s)) 8 := by
  intro s
  induction s with
  | zero => exact (sq_cnone 8 (fun j _ => decide_eq_false (by omega))).symm
  | succ s ih =>
    show sq_i len (s + 1) + sq_n len (s + 1) = _
    rw [ih, sq_cspl (fun l => decide (1 ≤ len l ∧ len l ≤ s + 1)) (fun l => decide (1 ≤ len l ∧ len l ≤ s)) 8]
    congr 1
    · refine sq_ccg 8 (fun l _ => ?_)
      show decide (1 ≤ len l ∧ len l ≤ s) = (decide (1 ≤ len l ∧ len l ≤ s + 1) && decide (1 ≤ len l ∧ len l ≤ s))
      rw [← Bool.decide_and]
      exact decide_eq_decide.mpr (by omega)
    · refine sq_ccg 8 (fun l _ => ?_)
      show decide (len l = s + 1) = (decide (1 ≤ len l ∧ len l ≤ s + 1) && !decide (1 ≤ len l ∧ len l ≤ s))
      rw [← decide_not, ← Bool.decide_and]
      exact decide_eq_decide.mpr (by omega)
theorem sq_i8 (len : Nat → Nat) (s : Nat) : sq_i len (s + 1) ≤ 8 := by rw [sq_ile]; exact sq_cle _ 8
theorem sq_imono (len : Nat → Nat) {a : Nat} : ∀ b, a ≤ b → sq_i len (a + 1) ≤ sq_i len (b + 1) := by
  intro b
  induction b with
  | zero => intro h; rw [show a = 0 by omega]; exact Nat.le_refl _
  | succ b ih =>
    intro h
    by_cases e : a = b + 1
    · rw [e]; exact Nat.le_refl _
    · have := ih (by omega)
      show _ ≤ sq_i len (b + 1) + sq_n len (b + 1)
      omega
/-- a letter's place in the order of words -/
def sq_ix (len : Nat → Nat) (l : Nat) : Nat := sq_i len (len l) + sq_c (fun k => decide (len k = len l)) l
theorem sq_ixlt {len : Nat → Nat} {l s : Nat} (hl : l < 8) (h1 : 1 ≤ len l) (h2 : len l < s) : sq_ix len l < sq_i len s := by
  have a := sq_wlt (len := len) hl
  have b := sq_imono len (a := len l) (s - 1) (by omega)
  rw [show s - 1 + 1 = s by omega] at b
  have c : sq_i len (len l + 1) = sq_i len (len l) + sq_n len (len l) := by
    obtain ⟨t, e⟩ : ∃ t, len l = t + 1 := ⟨len l - 1, by omega⟩
    rw [e]; rfl
  unfold sq_ix
  omega
theorem sq_ix8 {len : Nat → Nat} {l : Nat} (hl : l < 8) (h1 : 1 ≤ len l) : sq_ix len l < 8 := by
  have a := sq_ixlt (len := len) (s := len l + 1) hl h1 (by omega)
  have b := sq_i8 len (len l)
  omega
/-- reading: s bits of a longer word are no word of s bits; all bits of it are its number -/
theorem sq_rd {len : Nat → Nat} {l s : Nat} (hl : l < 8) (h1 : 1 ≤ s) (h2 : s ≤ len l) :
    sq_f len s ≤ sq_w len l / 2 ^ (len l - s) ∧ (s < len l → sq_n len s ≤ sq_w len l / 2 ^ (len l - s) - sq_f len s) ∧
    (s = len l → sq_w len l / 2 ^ (len l - s) - sq_f len s = sq_c (fun k => decide (len k = len l)) l ∧ sq_c (fun k => decide (len k = len l)) l < sq_n len s) := by
  by_cases e : s = len l
  · subst e
    rw [Nat.sub_self, Nat.pow_zero, Nat.div_one]
    refine ⟨Nat.le_add_right _ _, fun z => absurd z (Nat.lt_irrefl _), fun _ => ⟨?_, sq_wlt hl⟩⟩
    unfold sq_w
    omega
  · have := sq_wup (len := len) (l := l) h1 (by omega)
    exact ⟨by omega, fun _ => by omega, fun z => absurd z e⟩
/-- the next bit of a word -/
theorem sq_nx (w d : Nat) : w / 2 ^ d = 2 * (w / 2 ^ (d + 1)) + (w.testBit d).toNat := by
  rw [Nat.toNat_testBit, Nat.pow_succ, ← Nat.div_div_eq_div_mul]
  omega
theorem sq_w0 {len : Nat → Nat} (hK : ∀ s, s ≤ 7 → sq_K len s ≤ 128) {l : Nat} (hl : l < 8) (h1 : 1 ≤ len l) (h7 : len l ≤ 7) : sq_w len l < 2 ^ len l := by
  have a := sq_fle hK h1 h7
  have b := sq_wlt (len := len) hl
  unfold sq_w
  omega
end
section
-- Part 06: Huffman's joins: the lightest groups, the cost, its bound.
/-- the first of the lightest groups below i, without e -/
def sq_li (w : Nat → Nat) (e : Option Nat) : Nat → Option Nat
  | 0 => none
  | g + 1 => match sq_li w e g with
    | none => if e = some g ∨ w g = 0 then none else some g
    | some m => if e = some g ∨ w g = 0 then some m else if w g < w m then some g else some m
def sq_LI (w : Nat → Nat) (e : Option Nat) (i : Nat) : Option Nat → Prop
  | none => ∀ g, g < i → e = some g ∨ w g = 0
  | some m => m < i ∧ e ≠ some m ∧ 0 < w m ∧ ∀ g, g < i → e ≠ some g → 0 < w g → w m ≤ w g
theorem sq_lis (w : Nat → Nat) (e : Option Nat) : ∀ i, sq_LI w e i (sq_li w e i) := by
  intro i
  induction i with
  | zero => intro g hg; omega
  | succ i ih =>
    unfold sq_li
    cases h : sq_li w e i with
    | none =>
      rw [h] at ih
      have ih' : ∀ g, g < i → e = some g ∨ w g = 0 := ih
      by_cases c : e = some i ∨ w i = 0
      · show sq_LI w e (i + 1) (if e = some i ∨ w i = 0 then none else some i)
        rw [if_pos c]
        intro g hg
        by_cases eg : g = i
        · subst eg; exact c
        · exact ih' g (by omega)
      · show sq_LI w e (i + 1) (if e = some i ∨ w i = 0 then none else some i)
        rw [if_neg c]
        refine ⟨by omega, fun z => c (Or.inl z), Nat.pos_of_ne_zero (fun z => c (Or.inr z)), ?_⟩
        intro g hg he hw
        by_cases eg : g = i
        · subst eg; exact Nat.le_refl _
        · rcases ih' g (by omega) with z | z
          · exact absurd z he
          · omega
    | some m =>
      rw [h] at ih
      have ih' : m < i ∧ e ≠ some m ∧ 0 < w m ∧ ∀ g, g < i → e ≠ some g → 0 < w g → w m ≤ w g := ih
      obtain ⟨a1, a2, a3, a4⟩ := ih'
      show sq_LI w e (i + 1) (if e = some i ∨ w i = 0 then some m else if w i < w m then some i else some m)
      by_cases c : e = some i ∨ w i = 0
      · rw [if_pos c]
        refine ⟨by omega, a2, a3, ?_⟩
        intro g hg he hw
        by_cases eg : g = i
        · subst eg
          rcases c with c | c
          · exact absurd c he
          · omega
        · exact a4 g (by omega) he hw
      · rw [if_neg c]
        by_cases d : w i < w m
        · rw [if_pos d]
          refine ⟨by omega, fun z => c (Or.inl z), Nat.pos_of_ne_zero (fun z => c (Or.inr z)), ?_⟩
          intro g hg he hw
          by_cases eg : g = i
          · subst eg; exact Nat.le_refl _
          · have := a4 g (by omega) he hw
            omega
        · rw [if_neg d]
          refine ⟨by omega, a2, a3, ?_⟩
          intro g hg he hw
          by_cases eg : g = i
          · subst eg; omega
          · exact a4 g (by omega) he hw
def sq_fi (w : Nat → Nat) : Option Nat := sq_li w none 8
def sq_se (w : Nat → Nat) : Option Nat := sq_li w (sq_fi w) 8
theorem sq_se_some {w : Nat → Nat} {s : Nat} (h : sq_se w = some s) : ∃ f, sq_fi w = some f ∧ f < 8 ∧ s < 8 ∧ f ≠ s ∧ 0 < w f ∧ 0 < w s ∧ (∀ g, g < 8 → 0 < w g → w f ≤ w g) ∧ (∀ g, g < 8 → g ≠ f → 0 < w g → w s ≤ w g) := by
  have a := sq_lis w none 8
  have b := sq_lis w (sq_fi w) 8
  have h' : sq_li w (sq_fi w) 8 = some s := h
  rw [h'] at b
  have b' : s < 8 ∧ sq_fi w ≠ some s ∧ 0 < w s ∧ ∀ g, g < 8 → sq_fi w ≠ some g → 0 < w g → w s ≤ w g := b
  obtain ⟨b1, b2, b3, b4⟩ := b'
  cases e : sq_fi w with
  | none =>
    have e' : sq_li w none 8 = none := e
    rw [e'] at a
    have a' : ∀ g, g < 8 → none = some g ∨ w g = 0 := a
    rcases a' s b1 with z | z
    · exact absurd z (by simp)
    · omega
  | some f =>
    have e' : sq_li w none 8 = some f := e
    rw [e'] at a
    have a' : f < 8 ∧ none ≠ some f ∧ 0 < w f ∧ ∀ g, g < 8 → none ≠ some g → 0 < w g → w f ≤ w g := a
    obtain ⟨a1, _, a3, a4⟩ := a'
    rw [e] at b2 b4
    refine ⟨f, rfl, a1, b1, fun z => b2 (by rw [z]), a3, b3, fun g hg hw => a4 g hg (by simp) hw, fun g hg hn hw => b4 g hg (fun z => hn (Option.some.inj z).symm) hw⟩
theorem sq_se_none {w : Nat → Nat} (h : sq_se w = none) : (∀ g, g < 8 → w g = 0) ∨ ∃ f, f < 8 ∧ sq_fi w = some f ∧ 0 < w f ∧ ∀ g, g < 8 → g ≠ f → w g = 0 := by
  have a := sq_lis w none 8
  have b := sq_lis w (sq_fi w) 8
  have h' : sq_li w (sq_fi w) 8 = none := h
  rw [h'] at b
  have b' : ∀ g, g < 8 → sq_fi w = some g ∨ w g = 0 := b
  cases e : sq_fi w with
  | none =>
    left
    intro g hg
    rcases b' g hg with z | z
    · rw [e] at z; exact absurd z (by simp)
    · exact z
  | some f =>
    right
    have e' : sq_li w none 8 = some f := e
    rw [e'] at a
    have a' : f < 8 ∧ none ≠ some f ∧ 0 < w f ∧ ∀ g, g < 8 → none ≠ some g → 0 < w g → w f ≤ w g := a
    refine ⟨f, a'.1, rfl, a'.2.2.1, ?_⟩
    intro g hg hn
    rcases b' g hg with z | z
    · rw [e] at z; exact absurd (Option.some.inj z).symm hn
    · exact z
def sq_lv (w : Nat → Nat) : Nat := sq_c (fun g => decide (0 < w g)) 8
def sq_hs (w : Nat → Nat) (g : (Nat → Nat) → Nat) : Option Nat → Option Nat → Nat
  | some f, some s => w f + w s + g (sq_jw w f s)
  | _, _ => 0
/-- the joins' sum, k joins at most -/
def sq_hf : Nat → (Nat → Nat) → Nat
  | 0, _ => 0
  | k + 1, w => sq_hs w (sq_hf k) (sq_fi w) (sq_se w)
theorem sq_hs_none (w : Nat → Nat) (g : (Nat → Nat) → Nat) (a : Option Nat) : sq_hs w g a none = 0 := by cases a <;> rfl
theorem sq_hs_some (w : Nat → Nat) (g : (Nat → Nat) → Nat) (f s : Nat) : sq_hs w g (some f) (some s) = w f + w s + g (sq_jw w f s) := rfl
theorem sq_hfs (k : Nat) (w : Nat → Nat) : sq_hf (k + 1) w = sq_hs w (sq_hf k) (sq_fi w) (sq_se w) := rfl
theorem sq_hf_none {k : Nat} {w : Nat → Nat} (h : sq_se w = none) : sq_hf k w = 0 := by
  cases k with
  | zero => rfl
  | succ k => rw [sq_hfs, h, sq_hs_none]
theorem sq_hf_some {k : Nat} {w : Nat → Nat} {f s : Nat} (hf : sq_fi w = some f) (hs : sq_se w = some s) : sq_hf (k + 1) w = w f + w s + sq_hf k (sq_jw w f s) := by
  rw [sq_hfs, hf, hs, sq_hs_some]
theorem sq_cex {p : Nat → Bool} : ∀ i, 0 < sq_c p i → ∃ a, a < i ∧ p a = true := by
  intro i
  induction i with
  | zero => intro h; exact absurd h (by simp [sq_c])
  | succ i ih =>
    intro h
    cases e : p i with
    | true => exact ⟨i, by omega, e⟩
    | false =>
      rw [sq_cf e] at h
      obtain ⟨a, h1, h2⟩ := ih h
      exact ⟨a, by omega, h2⟩
def sq_rm (U : Nat → Bool) (a : Nat) : Nat → Bool := fun g => if g = a then false else U g
theorem sq_rmle (U : Nat → Bool) (a : Nat) : ∀ i, i ≤ a → sq_c (sq_rm U a) i = sq_c U i := fun i hi => sq_ccg i (fun j hj => if_neg (by omega))
theorem sq_crm {U : Nat → Bool} {a : Nat} (ha : U a = true) : ∀ i, a < i → sq_c U i = sq_c (sq_rm U a) i + 1 := by
  intro i
  induction i with
  | zero => intro h; omega
  | succ i ih =>
    intro h
    by_cases e : a = i
    · subst e
      rw [sq_ct ha, sq_cf (show sq_rm U a a = false from if_pos rfl), sq_rmle U a a (Nat.le_refl _)]
    · have := ih (by omega)
      rw [sq_cs, sq_cs, show sq_rm U a i = U i from if_neg (by omega), this]
      omega
def sq_us (w : Nat → Nat) (U : Nat → Bool) (i : Nat) : Nat := sq_s (fun g => if U g = true then w g else 0) i
theorem sq_usrm {w : Nat → Nat} {U : Nat → Bool} {a : Nat} (ha : U a = true) : ∀ i, a < i → sq_us w U i = sq_us w (sq_rm U a) i + w a := by
  intro i
  induction i with
  | zero => intro h; omega
  | succ i ih =>
    intro h
    unfold sq_us at ih ⊢
    rw [sq_ss, sq_ss]
    by_cases e : a = i
    · subst e
      rw [if_pos ha, show sq_rm U a a = false from if_pos rfl]
      have : sq_s (fun g => if sq_rm U a g = true then w g else 0) a = sq_s (fun g => if U g = true then w g else 0) a := sq_scg a (fun j hj => by
        show (if sq_rm U a j = true then w j else 0) = _
        rw [show sq_rm U a j = U j from if_neg (by omega)])
      rw [this]
      simp
    · have := ih (by omega)
      rw [this, show sq_rm U a i = U i from if_neg (by omega)]
      omega
theorem sq_ussm {w : Nat → Nat} {U : Nat → Bool} (i : Nat) : sq_us w U i ≤ sq_s w i := sq_sle i (fun j _ => by
  show (if U j = true then w j else 0) ≤ w j
  split <;> omega)
theorem sq_jws {w : Nat → Nat} {f s : Nat} (hf : f < 8) (hs : s < 8) (ne : f ≠ s) : sq_s (sq_jw w f s) 8 = sq_s w 8 := by
  have a : sq_us w (fun _ => true) 8 = sq_us w (sq_rm (fun _ => true) f) 8 + w f := sq_usrm rfl 8 hf
  have b : sq_us w (sq_rm (fun _ => true) f) 8 = sq_us w (sq_rm (sq_rm (fun _ => true) f) s) 8 + w s := sq_usrm (show (if s = f then false else true) = true from if_neg (Ne.symm ne)) 8 hs
  have a' : sq_us (sq_jw w f s) (fun _ => true) 8 = sq_us (sq_jw w f s) (sq_rm (fun _ => true) f) 8 + sq_jw w f s f := sq_usrm rfl 8 hf
  have b' : sq_us (sq_jw w f s) (sq_rm (fun _ => true) f) 8 = sq_us (sq_jw w f s) (sq_rm (sq_rm (fun _ => true) f) s) 8 + sq_jw w f s s := sq_usrm (show (if s = f then false else true) = true from if_neg (Ne.symm ne)) 8 hs
  have c : sq_us (sq_jw w f s) (sq_rm (sq_rm (fun _ => true) f) s) 8 = sq_us w (sq_rm (sq_rm (fun _ => true) f) s) 8 := sq_scg 8 (fun j _ => by
    show (if sq_rm (sq_rm (fun _ => true) f) s j = true then sq_jw w f s j else 0) = (if sq_rm (sq_rm (fun _ => true) f) s j = true then w j else 0)
    by_cases e1 : j = s
    · rw [show sq_rm (sq_rm (fun _ => true) f) s j = false from if_pos e1]; rfl
    · by_cases e2 : j = f
      · have : sq_rm (sq_rm (fun _ => true) f) s j = false := (if_neg e1).trans (if_pos e2)
        rw [this]; rfl
      · have : sq_jw w f s j = w j := (if_neg e1).trans (if_neg e2)
        rw [this])
  have d : sq_jw w f s f = w f + w s := (if_neg ne).trans (if_pos rfl)
  have e : sq_jw w f s s = 0 := if_pos rfl
  have t1 : sq_us w (fun _ => true) 8 = sq_s w 8 := sq_scg 8 (fun j _ => if_pos rfl)
  have t2 : sq_us (sq_jw w f s) (fun _ => true) 8 = sq_s (sq_jw w f s) 8 := sq_scg 8 (fun j _ => if_pos rfl)
  omega
theorem sq_jlv {w : Nat → Nat} {f s : Nat} (hf : f < 8) (hs : s < 8) (ne : f ≠ s) (lf : 0 < w f) (ls : 0 < w s) : sq_lv w = sq_lv (sq_jw w f s) + 1 := by
  have a : sq_lv w = sq_c (sq_rm (fun g => decide (0 < w g)) s) 8 + 1 := sq_crm (decide_eq_true ls) 8 hs
  have b : sq_lv (sq_jw w f s) = sq_c (sq_rm (fun g => decide (0 < w g)) s) 8 := sq_ccg 8 (fun j _ => by
    show decide (0 < sq_jw w f s j) = (if j = s then false else decide (0 < w j))
    by_cases e1 : j = s
    · rw [if_pos e1, show sq_jw w f s j = 0 from if_pos e1]; rfl
    · rw [if_neg e1]
      by_cases e2 : j = f
      · rw [show sq_jw w f s j = w f + w s from (if_neg e1).trans (if_pos e2), e2, decide_eq_true lf, decide_eq_true (by omega)]
      · rw [show sq_jw w f s j = w j from (if_neg e1).trans (if_neg e2)])
  omega
theorem sq_lv2 {w : Nat → Nat} {f s : Nat} (hf : f < 8) (hs : s < 8) (ne : f ≠ s) (lf : 0 < w f) (ls : 0 < w s) : 2 ≤ sq_lv w := by
  have a : sq_lv w = sq_c (sq_rm (fun g => decide (0 < w g)) s) 8 + 1 := sq_crm (decide_eq_true ls) 8 hs
  have b : sq_c (sq_rm (fun g => decide (0 < w g)) s) 8 = sq_c (sq_rm (sq_rm (fun g => decide (0 < w g)) s) f) 8 + 1 := sq_crm (show (if f = s then false else decide (0 < w f)) = true from (if_neg ne).trans (decide_eq_true lf)) 8 hf
  omega
def sq_gk (k : Nat) : Nat := if 5 ≤ k then 2 * k - 8 else if 3 ≤ k then 2 * k - 4 else 2 * k - 2
def sq_ck (k : Nat) : Nat := if 5 ≤ k then 1 else if 3 ≤ k then 2 else 3
def sq_IV (w : Nat → Nat) (c n : Nat) : Prop :=
  sq_s w 8 = n ∧ ∃ U : Nat → Bool, (∀ g, g < 8 → U g = true → 0 < w g) ∧ sq_gk (sq_lv w) ≤ sq_c U 8 ∧ c + sq_us w U 8 ≤ sq_ck (sq_lv w) * n
theorem sq_kt8 : ∀ k, k < 9 → 2 ≤ k → 2 ≤ sq_gk k ∧ (sq_ck (k - 1) = sq_ck k ∧ sq_gk (k - 1) + 2 = sq_gk k ∨ sq_ck (k - 1) = sq_ck k + 1 ∧ sq_gk (k - 1) ≤ k - 1) := by decide +kernel
theorem sq_kt9 : ∀ k, k < 9 → sq_gk k ≤ k ∧ sq_ck k ≤ 3 ∧ 1 ≤ sq_ck k := by decide +kernel
theorem sq_IV0 {w : Nat → Nat} {n : Nat} (h : sq_s w 8 = n) : sq_IV w 0 n := by
  have hk := sq_kt9 (sq_lv w) (by have := sq_cle (fun g => decide (0 < w g)) 8; show sq_c _ 8 < 9; omega)
  refine ⟨h, fun g => decide (0 < w g), fun g _ hg => of_decide_eq_true hg, hk.1, ?_⟩
  have a := sq_ussm (w := w) (U := fun g => decide (0 < w g)) 8
  have b : 1 * n ≤ sq_ck (sq_lv w) * n := Nat.mul_le_mul_right n hk.2.2
  omega
theorem sq_IVs {w : Nat → Nat} {c n f s : Nat} (H : sq_IV w c n) (hf : f < 8) (hs : s < 8) (ne : f ≠ s) (lf : 0 < w f) (ls : 0 < w s)
    (m1 : ∀ g, g < 8 → 0 < w g → w f ≤ w g) (m2 : ∀ g, g < 8 → g ≠ f → 0 < w g → w s ≤ w g) : sq_IV (sq_jw w f s) (c + (w f + w s)) n := by
  obtain ⟨h1, U, u1, u2, u3⟩ := H
  have k1 := sq_jlv hf hs ne lf ls
  have k2 := sq_lv2 hf hs ne lf ls
  have k8 : sq_lv w ≤ 8 := sq_cle _ 8
  have hn := sq_jws (w := w) hf hs ne
  have t := sq_kt8 (sq_lv w) (by omega) k2
  -- the first of the two that pay
  have A : ∃ a, a < 8 ∧ U a = true ∧ w f ≤ w a ∧ sq_rm U a f = false := by
    cases e : U f with
    | true => exact ⟨f, hf, e, Nat.le_refl _, if_pos rfl⟩
    | false =>
      obtain ⟨a, a1, a2⟩ := sq_cex (p := U) 8 (by omega)
      refine ⟨a, a1, a2, m1 a a1 (u1 a a1 a2), ?_⟩
      show (if f = a then false else U f) = false
      rw [e]; split <;> rfl
  obtain ⟨a, a1, a2, a3, a4⟩ := A
  have ca := sq_crm a2 8 a1
  have wa := sq_usrm (w := w) a2 8 a1
  have B : ∃ b, b < 8 ∧ sq_rm U a b = true ∧ w s ≤ w b ∧ sq_rm (sq_rm U a) b s = false := by
    cases e : sq_rm U a s with
    | true => exact ⟨s, hs, e, Nat.le_refl _, if_pos rfl⟩
    | false =>
      obtain ⟨b, b1, b2⟩ := sq_cex (p := sq_rm U a) 8 (by omega)
      have bf : b ≠ f := fun z => by rw [z, a4] at b2; exact absurd b2 (by decide)
      have bu : U b = true := by
        have b3 : (if b = a then false else U b) = true := b2
        by_cases z : b = a
        · rw [if_pos z] at b3; exact absurd b3 (by decide)
        · rw [if_neg z] at b3; exact b3
      refine ⟨b, b1, b2, m2 b b1 bf (u1 b b1 bu), ?_⟩
      show (if s = b then false else sq_rm U a s) = false
      rw [e]; split <;> rfl
  obtain ⟨b, b1, b2, b3, b4⟩ := B
  have cb := sq_crm b2 8 b1
  have wb := sq_usrm (w := w) b2 8 b1
  have v1 : ∀ g, sq_rm (sq_rm U a) b g = true → g ≠ f ∧ g ≠ s ∧ U g = true := by
    intro g hg
    have g1 : (if g = b then false else sq_rm U a g) = true := hg
    by_cases z : g = b
    · rw [if_pos z] at g1; exact absurd g1 (by decide)
    · rw [if_neg z] at g1
      have g2 : (if g = a then false else U g) = true := g1
      by_cases y : g = a
      · rw [if_pos y] at g2; exact absurd g2 (by decide)
      · rw [if_neg y] at g2
        refine ⟨fun x => ?_, fun x => ?_, g2⟩
        · rw [x, a4] at g1; exact absurd g1 (by decide)
        · rw [x, b4] at hg; exact absurd hg (by decide)
  have jg : ∀ g, g ≠ f → g ≠ s → sq_jw w f s g = w g := fun g x y => (if_neg y).trans (if_neg x)
  have wj : sq_us (sq_jw w f s) (sq_rm (sq_rm U a) b) 8 = sq_us w (sq_rm (sq_rm U a) b) 8 := sq_scg 8 (fun j _ => by
    show (if sq_rm (sq_rm U a) b j = true then sq_jw w f s j else 0) = (if sq_rm (sq_rm U a) b j = true then w j else 0)
    cases e : sq_rm (sq_rm U a) b j with
    | false => rfl
    | true =>
      obtain ⟨x, y, _⟩ := v1 j e
      rw [jg j x y])
  refine ⟨by omega, ?_⟩
  have kk : sq_lv (sq_jw w f s) = sq_lv w - 1 := by omega
  rcases t.2 with ⟨t1, t2⟩ | ⟨t1, t2⟩
  · refine ⟨sq_rm (sq_rm U a) b, ?_, by rw [kk]; omega, by rw [kk, t1]; omega⟩
    intro g hg hu
    obtain ⟨x, y, z⟩ := v1 g hu
    rw [jg g x y]
    exact u1 g hg z
  · refine ⟨fun g => decide (0 < sq_jw w f s g), fun g _ hg => of_decide_eq_true hg, ?_, ?_⟩
    · have : sq_c (fun g => decide (0 < sq_jw w f s g)) 8 = sq_lv (sq_jw w f s) := rfl
      rw [this, kk]; exact t2
    · have x := sq_ussm (w := sq_jw w f s) (U := fun g => decide (0 < sq_jw w f s g)) 8
      rw [kk, t1, Nat.add_mul, Nat.one_mul]
      omega
theorem sq_hfle : ∀ (k : Nat) (w : Nat → Nat) (c n : Nat), sq_IV w c n → c + sq_hf k w ≤ 3 * n := by
  intro k
  induction k with
  | zero =>
    intro w c n H
    obtain ⟨_, U, _, _, u3⟩ := H
    have hk := sq_kt9 (sq_lv w) (by have := sq_cle (fun g => decide (0 < w g)) 8; show sq_c _ 8 < 9; omega)
    have b : sq_ck (sq_lv w) * n ≤ 3 * n := Nat.mul_le_mul_right n hk.2.1
    show c + 0 ≤ 3 * n
    omega
  | succ k ih =>
    intro w c n H
    cases e : sq_se w with
    | none =>
      rw [sq_hf_none e]
      obtain ⟨_, U, _, _, u3⟩ := H
      have hk := sq_kt9 (sq_lv w) (by have := sq_cle (fun g => decide (0 < w g)) 8; show sq_c _ 8 < 9; omega)
      have b : sq_ck (sq_lv w) * n ≤ 3 * n := Nat.mul_le_mul_right n hk.2.1
      omega
    | some s =>
      obtain ⟨f, e1, hf, hs, ne, lf, ls, m1, m2⟩ := sq_se_some e
      rw [sq_hf_some e1 e]
      have := ih _ _ _ (sq_IVs H hf hs ne lf ls m1 m2)
      omega
theorem sq_hf3 {w : Nat → Nat} {n : Nat} (h : sq_s w 8 = n) (k : Nat) : sq_hf k w ≤ 3 * n := by
  have := sq_hfle k w 0 n (sq_IV0 h)
  omega
end
section
-- Part 07: the lengths when all groups are joined.
/-- the only letter of a list gets one bit -/
def sq_fl (cnt len : Nat → Nat) : Nat → Nat := fun l => if 0 < cnt l ∧ len l = 0 then 1 else len l
theorem sq_sle1 {f : Nat → Nat} {a b : Nat} (ne : a ≠ b) : ∀ i, a < i → b < i → f a + f b ≤ sq_s f i := by
  intro i
  induction i with
  | zero => intro h; omega
  | succ i ih =>
    intro ha hb
    rw [sq_ss]
    by_cases e1 : a = i
    · subst e1
      have := sq_s1 (f := f) (a := b) a (by omega)
      omega
    · by_cases e2 : b = i
      · subst e2
        have := sq_s1 (f := f) (a := a) b (by omega)
        omega
      · have := ih (by omega) (by omega)
        omega
/-- all joined: what the words are worth -/
def sq_OK (cnt len : Nat → Nat) : Prop :=
  (∀ l, l < 8 → 0 < cnt l → 1 ≤ len l ∧ len l ≤ 7) ∧ (∀ l, l < 8 → cnt l = 0 → len l = 0) ∧ ∀ s, s ≤ 7 → sq_K len s ≤ 128
theorem sq_fin {cnt len gr w : Nat → Nat} {j : Nat} (H : sq_HI cnt len gr w j) (hj : j ≤ 7) (hs : sq_se w = none) : sq_OK cnt (sq_fl cnt len) := by
  obtain ⟨h1, h2, h3⟩ := H
  have wl : ∀ l, l < 8 → cnt l ≤ w (gr l) := by
    intro l hl
    rw [h2 _ (h1 l hl).1]
    have a := sq_s1 (f := fun k => if gr k = gr l then cnt k else 0) (a := l) 8 hl
    rw [if_pos rfl] at a
    exact a
  refine ⟨?_, ?_, ?_⟩
  · intro l hl hc
    have := (h1 l hl).2.1
    unfold sq_fl
    by_cases e : len l = 0
    · rw [if_pos ⟨hc, e⟩]; omega
    · rw [if_neg (fun z => e z.2)]; omega
  · intro l hl hc
    unfold sq_fl
    rw [if_neg (by omega)]
    exact ((h1 l hl).2.2 hc).1
  · intro s hs7
    rcases sq_se_none hs with hz | ⟨f, hf, _, lf, hz⟩
    · have : sq_K (sq_fl cnt len) s = 0 := sq_s0 8 (fun l hl => by
        have c := wl l hl
        rw [hz _ (h1 l hl).1] at c
        have d := ((h1 l hl).2.2 (by omega)).1
        have e : sq_fl cnt len l = 0 := by unfold sq_fl; rw [if_neg (by omega)]; exact d
        show (if 1 ≤ sq_fl cnt len l ∧ sq_fl cnt len l ≤ s then 2 ^ (7 - sq_fl cnt len l) else 0) = 0
        rw [e, if_neg (by omega)])
      omega
    · have grf : ∀ l, l < 8 → 0 < cnt l → gr l = f := by
        intro l hl hc
        by_cases e : gr l = f
        · exact e
        · have a := wl l hl
          rw [hz _ (h1 l hl).1 e] at a
          omega
      have kf := h3 f hf lf
      rw [← kf]
      refine sq_sle 8 (fun l hl => ?_)
      show (if 1 ≤ sq_fl cnt len l ∧ sq_fl cnt len l ≤ s then 2 ^ (7 - sq_fl cnt len l) else 0) ≤ (if gr l = f then 2 ^ (7 - len l) else 0)
      by_cases hc : 0 < cnt l
      · rw [if_pos (grf l hl hc)]
        have a : len l ≤ sq_fl cnt len l := by
          unfold sq_fl
          split <;> omega
        have b : 2 ^ (7 - sq_fl cnt len l) ≤ 2 ^ (7 - len l) := Nat.pow_le_pow_right (by decide) (by omega)
        split
        · exact b
        · exact Nat.zero_le _
      · have d := ((h1 l hl).2.2 (by omega)).1
        have e : sq_fl cnt len l = 0 := by unfold sq_fl; rw [if_neg (by omega)]; exact d
        rw [e, if_neg (by omega)]
        exact Nat.zero_le _
/-- the cost of the words in the end -/
theorem sq_cofl {cnt len gr w : Nat → Nat} {j : Nat} (H : sq_HI cnt len gr w j) (hj : j ≤ 7) (hs : sq_se w = none) (h2l : sq_se cnt ≠ none) : sq_co cnt (sq_fl cnt len) = sq_co cnt len := by
  obtain ⟨h1, h2, h3⟩ := H
  have wl : ∀ l, l < 8 → cnt l ≤ w (gr l) := by
    intro l hl
    rw [h2 _ (h1 l hl).1]
    have a := sq_s1 (f := fun k => if gr k = gr l then cnt k else 0) (a := l) 8 hl
    rw [if_pos rfl] at a
    exact a
  obtain ⟨b, hb⟩ := Option.ne_none_iff_exists'.mp h2l
  obtain ⟨a, _, ha8, hb8, ne, la, lb, _, _⟩ := sq_se_some hb
  refine sq_scg 8 (fun l hl => ?_)
  by_cases hc : 0 < cnt l ∧ len l = 0
  · -- then the group of l has l alone, yet a and b are in it
    exfalso
    rcases sq_se_none hs with hz | ⟨f, hf, _, lf, hz⟩
    · have := wl l hl
      rw [hz _ (h1 l hl).1] at this
      omega
    · have grf : ∀ l, l < 8 → 0 < cnt l → gr l = f := by
        intro l hl hc
        by_cases e : gr l = f
        · exact e
        · have a := wl l hl
          rw [hz _ (h1 l hl).1 e] at a
          omega
      have kf := h3 f hf lf
      obtain ⟨k, hk8, hkl, lk⟩ : ∃ k, k < 8 ∧ l ≠ k ∧ 0 < cnt k := by
        by_cases e : l = a
        · exact ⟨b, hb8, by omega, lb⟩
        · exact ⟨a, ha8, e, la⟩
      have t := sq_sle1 (f := fun l => if gr l = f then 2 ^ (7 - len l) else 0) hkl 8 hl hk8
      have t1 : (if gr l = f then 2 ^ (7 - len l) else 0) = 128 := by
        rw [if_pos (grf l hl hc.1), hc.2]
      have t2 : 0 < (if gr k = f then 2 ^ (7 - len k) else 0) := by
        rw [if_pos (grf k hk8 lk)]
        exact Nat.pow_pos (by decide)
      rw [kf, t1] at t
      omega
  · show cnt l * sq_fl cnt len l = cnt l * len l
    have : sq_fl cnt len l = len l := if_neg hc
    rw [this]
/-- a list of one letter, or none: a bit for each place -/
theorem sq_co1 {cnt : Nat → Nat} (hs : sq_se cnt = none) : sq_co cnt (sq_fl cnt (fun _ => 0)) = sq_s cnt 8 := by
  refine sq_scg 8 (fun l _ => ?_)
  show cnt l * (if 0 < cnt l ∧ (0 : Nat) = 0 then 1 else 0) = cnt l
  by_cases h : 0 < cnt l
  · rw [if_pos ⟨h, rfl⟩, Nat.mul_one]
  · rw [if_neg (fun z => h z.1)]; omega
/-- the answer of bits -/
def sq_bits (cnt : Nat → Nat) (n : Nat) : Nat := if sq_se cnt = none then n else sq_hf 7 cnt
theorem sq_bits600 {cnt : Nat → Nat} {n : Nat} (h : sq_s cnt 8 = n) (hn : n ≤ 200) : sq_bits cnt n ≤ 600 := by
  have := sq_hf3 h 7
  unfold sq_bits
  split <;> omega
end
section
-- Part 08: words: bits, fields, ones.
def sq_B (a : Nat → Int64) (p : Nat) : Bool := (uN (a (p / 64))).testBit (p % 64)
theorem sq_u64 (x : Int64) : uN x < 2 ^ 64 := by
  have := uN_lt x
  omega
theorem sq_uNl {n : Nat} (h : n < 2 ^ 64) : uN (lN n) = n := wb_tn h
theorem sq_lNu (x : Int64) : lN (uN x) = x := uN_inj (sq_uNl (sq_u64 x))
theorem sq_uor (x y : Int64) : uN (x ||| y) = uN x ||| uN y := UInt64.toNat_or _ _
theorem sq_uand (x y : Int64) : uN (x &&& y) = uN x &&& uN y := UInt64.toNat_and _ _
theorem sq_uxor (x y : Int64) : uN (x ^^^ y) = uN x ^^^ uN y := UInt64.toNat_xor _ _
theorem sq_mod6 {p : Nat} (hp : p < 2 ^ 31) : nI p &&& 63 = nI (p % 64) := pk_andN (by omega) 6 (by decide)
theorem sq_div6 {p : Nat} (hp : p < 2 ^ 31) : nI p >>> ((6 : Int32) &&& 31) = nI (p / 64) := pk_shrN hp _ 6 (by decide)
theorem sq_one {k : Nat} (hk : k < 64) : (1 : Int64) <<< ((nI k).toInt64 &&& 63) = lN (2 ^ k) := by
  have h := wb_shl 1 hk
  rw [Nat.one_mul] at h
  exact h
theorem sq_Bset (a : Nat → Int64) (p q : Nat) : sq_B (vp_updL a (p / 64) (a (p / 64) ||| lN (2 ^ (p % 64)))) q = (sq_B a q || decide (q = p)) := by
  unfold sq_B
  by_cases h : q / 64 = p / 64
  · rw [h, pk_uLs, sq_uor, sq_uNl (wb_lt2 (show p % 64 < 64 by omega)), Nat.testBit_or, Nat.testBit_two_pow]
    congr 1
    exact decide_eq_decide.mpr (by omega)
  · rw [pk_uLn h, decide_eq_false (by intro e; subst e; exact h rfl), Bool.or_false]
/-- a bit of a word, as bitAt reads it -/
theorem sq_bitw (x : Int64) {k : Nat} (hk : k < 64) : ((x.toUInt64 >>> ((nI k).toInt64.toUInt64 &&& Int64.toUInt64 63)).toInt64).toInt32 &&& 1 = nI ((uN x).testBit k).toNat := by
  obtain ⟨m, hm, rfl⟩ := wb_of x
  rw [wb_shr hm hk, lN_i, pk_and _ 1 (by decide), sq_uNl hm, Nat.toNat_testBit]
  have e : (nI (m / 2 ^ k)).toBitVec.toNat = m / 2 ^ k % 2 ^ 32 := rfl
  rw [e]
  congr 1
  generalize m / 2 ^ k = y
  omega
theorem sq_bitl (x : Int64) {k : Nat} (hk : k < 64) : (x.toUInt64 >>> ((nI k).toInt64.toUInt64 &&& Int64.toUInt64 63)).toInt64 &&& 1 = lN ((uN x).testBit k).toNat := by
  obtain ⟨m, hm, rfl⟩ := wb_of x
  rw [wb_bit hm hk, sq_uNl hm, Nat.toNat_testBit]
theorem sq_C5 : (6148914691236517205 : Int64) = lN 6148914691236517205 := rfl
/-- the number of ones of a word -/
def sq_pc (x : Int64) : Nat := sq_c (fun q => (uN x).testBit q) 64
theorem sq_pcle (x : Int64) : sq_pc x ≤ 64 := sq_cle _ 64
theorem sq_ones1 {m : Nat} (hm : m < 2 ^ 64) : lN m - (((lN m).toUInt64 >>> ((1 : Int32).toInt64.toUInt64 &&& Int64.toUInt64 63)).toInt64 &&& 6148914691236517205) = lN (sq_q1 m) := by
  have a : ((lN m).toUInt64 >>> ((1 : Int32).toInt64.toUInt64 &&& Int64.toUInt64 63)).toInt64 = lN (m / 2 ^ 1) := wb_shr (k := 1) hm (by decide)
  rw [a, show (6148914691236517205 : Int64) = lN 6148914691236517205 from rfl, wb_and (by omega) (by decide), Nat.pow_one]
  exact lN_sub (Nat.le_trans Nat.and_le_left (by omega))
theorem sq_ones2 {m : Nat} (hm : m < 2 ^ 64) : (lN m &&& 3689348814741910323) + (((lN m).toUInt64 >>> ((2 : Int32).toInt64.toUInt64 &&& Int64.toUInt64 63)).toInt64 &&& 3689348814741910323) = lN (sq_q2 m) := by
  have a : ((lN m).toUInt64 >>> ((2 : Int32).toInt64.toUInt64 &&& Int64.toUInt64 63)).toInt64 = lN (m / 2 ^ 2) := wb_shr (k := 2) hm (by decide)
  rw [a, show (3689348814741910323 : Int64) = lN 3689348814741910323 from rfl, wb_and hm (by decide), wb_and (by omega) (by decide), lN_add]
  rfl
theorem sq_ones3 {m : Nat} (hm : m < 2 ^ 63) : (lN m + ((lN m).toUInt64 >>> ((4 : Int32).toInt64.toUInt64 &&& Int64.toUInt64 63)).toInt64) &&& 1085102592571150095 = lN (sq_q3 m) := by
  have a : ((lN m).toUInt64 >>> ((4 : Int32).toInt64.toUInt64 &&& Int64.toUInt64 63)).toInt64 = lN (m / 2 ^ 4) := wb_shr (k := 4) (by omega) (by decide)
  rw [a, lN_add, show (1085102592571150095 : Int64) = lN 1085102592571150095 from rfl, wb_and (by omega) (by decide)]
  rfl
theorem sq_ones4 (m : Nat) : (((lN m * 72340172838076673).toUInt64 >>> ((56 : Int32).toInt64.toUInt64 &&& Int64.toUInt64 63)).toInt64).toInt32 = nI (m * 72340172838076673 % 2 ^ 64 / 2 ^ 56) := by
  rw [show (72340172838076673 : Int64) = lN 72340172838076673 from rfl, lN_mul, wb_mod]
  have a : ((lN (m * 72340172838076673 % 2 ^ 64)).toUInt64 >>> ((56 : Int32).toInt64.toUInt64 &&& Int64.toUInt64 63)).toInt64 = lN (m * 72340172838076673 % 2 ^ 64 / 2 ^ 56) := wb_shr (k := 56) (Nat.mod_lt _ (by decide)) (by decide)
  rw [a, lN_i]
/-- the ones of row words w, w + 1, .. -/
theorem sq_pcw (a : Nat → Int64) (w k : Nat) : sq_c (fun t => sq_B a (64 * w + t)) (64 * k + 64) = sq_c (fun t => sq_B a (64 * w + t)) (64 * k) + sq_pc (a (w + k)) := by
  rw [sq_cadd]
  congr 1
  refine sq_ccg 64 (fun q hq => ?_)
  show sq_B a (64 * w + (64 * k + q)) = (uN (a (w + k))).testBit q
  unfold sq_B
  rw [show (64 * w + (64 * k + q)) / 64 = w + k by omega, show (64 * w + (64 * k + q)) % 64 = q by omega]
theorem sq_pcm (x : Int64) {r : Nat} (hr : r < 64) : sq_pc (x &&& ((1 : Int64) <<< ((nI r).toInt64 &&& 63) - 1)) = sq_c (fun q => (uN x).testBit q) r := by
  have e1 : (1 : Int64) <<< ((nI r).toInt64 &&& 63) - 1 = lN (2 ^ r - 1) := by
    rw [sq_one hr]
    exact lN_sub (b := 1) (Nat.pow_pos (by decide))
  have hp := wb_lt2 hr
  unfold sq_pc
  rw [e1, sq_uand, sq_uNl (by omega), Nat.and_two_pow_sub_one_eq_mod]
  rw [show (64 : Nat) = r + (64 - r) by omega, sq_cadd]
  have z : sq_c (fun q => (uN x % 2 ^ r).testBit (r + q)) (64 - r) = 0 := sq_cnone _ (fun j _ => by
    show (uN x % 2 ^ r).testBit (r + j) = false
    rw [Nat.testBit_mod_two_pow, decide_eq_false (by omega), Bool.false_and])
  rw [z, Nat.add_zero]
  exact sq_ccg r (fun j hj => by
    show (uN x % 2 ^ r).testBit j = (uN x).testBit j
    rw [Nat.testBit_mod_two_pow, decide_eq_true hj, Bool.true_and])
theorem sq_pcr (a : Nat → Int64) (w k : Nat) {r : Nat} (hr : r ≤ 64) : sq_c (fun t => sq_B a (64 * w + t)) (64 * k + r) = sq_c (fun t => sq_B a (64 * w + t)) (64 * k) + sq_c (fun q => (uN (a (w + k))).testBit q) r := by
  rw [sq_cadd]
  congr 1
  refine sq_ccg r (fun q hq => ?_)
  show sq_B a (64 * w + (64 * k + q)) = (uN (a (w + k))).testBit q
  unfold sq_B
  rw [show (64 * w + (64 * k + q)) / 64 = w + k by omega, show (64 * w + (64 * k + q)) % 64 = q by omega]
-- ---- fields of w bits, m a word ----
def sq_F (w m : Nat) (a : Nat → Int64) (p : Nat) : Nat := uN (a (p / m)) / 2 ^ (w * (p % m)) % 2 ^ w
theorem sq_orf {x v w k j : Nat} (hv : v < 2 ^ w) (hz : x / 2 ^ (w * k) % 2 ^ w = 0) : (x ||| v * 2 ^ (w * k)) / 2 ^ (w * j) % 2 ^ w = if j = k then v else x / 2 ^ (w * j) % 2 ^ w := by
  rw [Nat.or_div_two_pow, Nat.or_mod_two_pow]
  by_cases e : j = k
  · subst e
    rw [if_pos rfl, hz, Nat.zero_or, Nat.mul_div_cancel _ (Nat.pow_pos (by decide)), Nat.mod_eq_of_lt hv]
  · rw [if_neg e]
    have z : v * 2 ^ (w * k) / 2 ^ (w * j) % 2 ^ w = 0 := by
      by_cases h : j < k
      · obtain ⟨d, rfl⟩ : ∃ d, k = j + 1 + d := ⟨k - j - 1, by omega⟩
        have e1 : v * 2 ^ (w * (j + 1 + d)) = (v * 2 ^ (w * d) * 2 ^ w) * 2 ^ (w * j) := by
          rw [Nat.mul_add, Nat.mul_add, Nat.mul_one, Nat.pow_add, Nat.pow_add]
          simp only [Nat.mul_assoc, Nat.mul_comm, Nat.mul_left_comm]
        rw [e1, Nat.mul_div_cancel _ (Nat.pow_pos (by decide)), Nat.mul_mod_left]
      · obtain ⟨d, rfl⟩ : ∃ d, j = k + 1 + d := ⟨j - k - 1, by omega⟩
        have e1 : 2 ^ (w * (k + 1 + d)) = 2 ^ (w * k) * 2 ^ (w + w * d) := by
          rw [← Nat.pow_add]
          congr 1
          rw [Nat.mul_add, Nat.mul_add, Nat.mul_one]
          omega
        rw [e1, ← Nat.div_div_eq_div_mul, Nat.mul_div_cancel _ (Nat.pow_pos (by decide)), Nat.div_eq_of_lt, Nat.zero_mod]
        exact Nat.lt_of_lt_of_le hv (Nat.pow_le_pow_right (by decide) (by omega))
    rw [z, Nat.or_zero]
theorem sq_Fput {w m : Nat} (a : Nat → Int64) {p v : Nat} (hm : 0 < m) (hw : w * m ≤ 64) (hv : v < 2 ^ w) (hz : sq_F w m a p = 0) (q : Nat) :
    sq_F w m (vp_updL a (p / m) (a (p / m) ||| lN (v * 2 ^ (w * (p % m))))) q = if q = p then v else sq_F w m a q := by
  have hk : p % m < m := Nat.mod_lt _ hm
  have b : v * 2 ^ (w * (p % m)) < 2 ^ 64 := by
    have h1 : v * 2 ^ (w * (p % m)) < 2 ^ w * 2 ^ (w * (p % m)) := Nat.mul_lt_mul_of_pos_right hv (Nat.pow_pos (by decide))
    have h2 : 2 ^ w * 2 ^ (w * (p % m)) ≤ 2 ^ 64 := by
      rw [← Nat.pow_add]
      refine Nat.pow_le_pow_right (by decide) ?_
      have h3 : w * (p % m + 1) ≤ w * m := Nat.mul_le_mul_left w hk
      rw [Nat.mul_add, Nat.mul_one] at h3
      omega
    exact Nat.lt_of_lt_of_le h1 h2
  unfold sq_F at hz ⊢
  by_cases h : q / m = p / m
  · rw [h, pk_uLs, sq_uor, sq_uNl b, sq_orf hv hz]
    by_cases e : q = p
    · rw [if_pos e, if_pos (by rw [e])]
    · rw [if_neg e, if_neg]
      intro z
      apply e
      rw [← Nat.div_add_mod q m, ← Nat.div_add_mod p m, h, z]
  · rw [pk_uLn h, if_neg (by intro e; subst e; exact h rfl)]
theorem sq_F0 {a : Nat → Int64} {w m p : Nat} (h : a (p / m) = 0) : sq_F w m a p = 0 := by
  unfold sq_F
  rw [h, show uN 0 = 0 from rfl, Nat.zero_div, Nat.zero_mod]
theorem sq_B0 {a : Nat → Int64} {p : Nat} (h : a (p / 64) = 0) : sq_B a p = false := by
  unfold sq_B
  rw [h, show uN 0 = 0 from rfl, Nat.zero_testBit]
/-- part of a word, as tripleAt, runLetterAt and runLengthAt read it -/
theorem sq_getw (x : Int64) {k b : Nat} {c : Int32} (hk : k < 64) (hb : b ≤ 31) (hc : c.toBitVec.toNat = 2 ^ b - 1) : ((x.toUInt64 >>> ((nI k).toInt64.toUInt64 &&& Int64.toUInt64 63)).toInt64).toInt32 &&& c = nI (uN x / 2 ^ k % 2 ^ b) := by
  obtain ⟨m, hm, rfl⟩ := wb_of x
  rw [wb_shr hm hk, lN_i, pk_and _ b hc, sq_uNl hm]
  have e : (nI (m / 2 ^ k)).toBitVec.toNat = m / 2 ^ k % 2 ^ 32 := rfl
  rw [e, Nat.mod_mod_of_dvd]
  exact Nat.pow_dvd_pow 2 (by omega)
theorem sq_putw {v k : Nat} (hv : v < 2 ^ 31) (hk : k < 64) : (nI v).toInt64 <<< ((nI k).toInt64 &&& 63) = lN (v * 2 ^ k) := by
  rw [nI_l hv, wb_shl v hk]
-- ---- plainRank: the fields that are equal to a letter ----
theorem sq_low : ∀ l, l < 8 → ∀ b, b < 64 → (l * 1317624576693539401).testBit b = (decide (b < 63) && l.testBit (b % 3)) := by decide +kernel
theorem sq_lowb : ∀ b, b < 64 → (1317624576693539401 : Nat).testBit b = (decide (b < 63) && decide (b % 3 = 0)) := by decide +kernel
theorem sq_not64 (x : Int64) {b : Nat} (hb : b < 64) : (uN (x ^^^ (-1))).testBit b = !(uN x).testBit b := by
  rw [sq_uxor, Nat.testBit_xor]
  have h : (uN (-1)).testBit b = true := by
    have : ∀ b, b < 64 → (uN (-1)).testBit b = true := by decide +kernel
    exact this b hb
  rw [h]
  cases (uN x).testBit b <;> rfl
theorem sq_ushr (x : Int64) {k : Nat} (hk : k < 64) (b : Nat) : (uN (x.toUInt64 >>> ((nI k).toInt64.toUInt64 &&& Int64.toUInt64 63)).toInt64).testBit b = (uN x).testBit (b + k) := by
  rw [uN_sk x hk, Nat.testBit_div_two_pow]
/-- what plainRank calls same -/
def sq_same (x : Int64) (l : Int32) : Int64 :=
  ((((x ^^^ (l.toInt64 * 1317624576693539401)) ||| ((x ^^^ (l.toInt64 * 1317624576693539401)).toUInt64 >>> ((1 : Int32).toInt64.toUInt64 &&& Int64.toUInt64 63)).toInt64) ||| ((x ^^^ (l.toInt64 * 1317624576693539401)).toUInt64 >>> ((2 : Int32).toInt64.toUInt64 &&& Int64.toUInt64 63)).toInt64) ^^^ (-1)) &&& 1317624576693539401
theorem sq_t3b (x l : Nat) (hl : l < 8) (j : Nat) : (x / 2 ^ (3 * j) % 2 ^ 3 = l) ↔ (x.testBit (3 * j) = l.testBit 0 ∧ x.testBit (3 * j + 1) = l.testBit 1 ∧ x.testBit (3 * j + 2) = l.testBit 2) := by
  have e0 : x.testBit (3 * j) = (x / 2 ^ (3 * j) % 2 ^ 3).testBit 0 := by
    rw [Nat.testBit_mod_two_pow, Nat.testBit_div_two_pow]; simp
  have e1 : x.testBit (3 * j + 1) = (x / 2 ^ (3 * j) % 2 ^ 3).testBit 1 := by
    rw [Nat.testBit_mod_two_pow, Nat.testBit_div_two_pow, Nat.add_comm 1]; simp
  have e2 : x.testBit (3 * j + 2) = (x / 2 ^ (3 * j) % 2 ^ 3).testBit 2 := by
    rw [Nat.testBit_mod_two_pow, Nat.testBit_div_two_pow, Nat.add_comm 2]; simp
  rw [e0, e1, e2]
  have hy : x / 2 ^ (3 * j) % 2 ^ 3 < 8 := Nat.mod_lt _ (by decide)
  generalize x / 2 ^ (3 * j) % 2 ^ 3 = y at hy ⊢
  have : ∀ y, y < 8 → ∀ l, l < 8 → ((y = l) ↔ (y.testBit 0 = l.testBit 0 ∧ y.testBit 1 = l.testBit 1 ∧ y.testBit 2 = l.testBit 2)) := by decide +kernel
  exact this y hy l hl
theorem sq_b6t : ∀ d e f : Bool, (!((d ^^ (true && d)) || (e ^^ (true && e)) || (f ^^ (true && f))) && (true && true)) = (true && true && true) := by decide
theorem sq_b6f : ∀ a b c d e f : Bool, ¬ (a = d ∧ b = e ∧ c = f) → (!((a ^^ (true && d)) || (b ^^ (true && e)) || (c ^^ (true && f))) && (true && true)) = (true && true && false) := by decide
theorem sq_sameb (x : Int64) {l : Nat} (hl : l < 8) {b : Nat} (hb : b < 64) : (uN (sq_same x (nI l))).testBit b = (decide (b < 63) && decide (b % 3 = 0) && decide (uN x / 2 ^ (3 * (b / 3)) % 2 ^ 3 = l)) := by
  have hm : (nI l).toInt64 * 1317624576693539401 = lN (l * 1317624576693539401) := by
    rw [nI_l (by omega), show (1317624576693539401 : Int64) = lN 1317624576693539401 from rfl, lN_mul]
  have hd : ∀ c, c < 64 → (uN (x ^^^ (nI l).toInt64 * 1317624576693539401)).testBit c = ((uN x).testBit c ^^ (decide (c < 63) && l.testBit (c % 3))) := by
    intro c hc
    rw [hm, sq_uxor, Nat.testBit_xor, sq_uNl (by omega), sq_low l hl c hc]
  unfold sq_same
  rw [sq_uand, Nat.testBit_and, sq_not64 _ hb, sq_uor, Nat.testBit_or, sq_uor, Nat.testBit_or]
  have s1 := sq_ushr (x ^^^ (nI l).toInt64 * 1317624576693539401) (k := 1) (by decide) b
  have s2 := sq_ushr (x ^^^ (nI l).toInt64 * 1317624576693539401) (k := 2) (by decide) b
  have s1' : (uN ((x ^^^ (nI l).toInt64 * 1317624576693539401).toUInt64 >>> ((1 : Int32).toInt64.toUInt64 &&& Int64.toUInt64 63)).toInt64).testBit b = _ := s1
  have s2' : (uN ((x ^^^ (nI l).toInt64 * 1317624576693539401).toUInt64 >>> ((2 : Int32).toInt64.toUInt64 &&& Int64.toUInt64 63)).toInt64).testBit b = _ := s2
  rw [s1', s2', show uN 1317624576693539401 = 1317624576693539401 from rfl, sq_lowb b hb]
  by_cases h : b < 63 ∧ b % 3 = 0
  · obtain ⟨h1, h2⟩ := h
    rw [hd b hb, hd (b + 1) (by omega), hd (b + 2) (by omega), decide_eq_true h1, decide_eq_true (show b + 1 < 63 by omega), decide_eq_true (show b + 2 < 63 by omega), decide_eq_true h2,
      show b % 3 = 0 from h2, show (b + 1) % 3 = 1 by omega, show (b + 2) % 3 = 2 by omega]
    have t := sq_t3b (uN x) l hl (b / 3)
    rw [show 3 * (b / 3) = b by omega] at t
    rw [show 3 * (b / 3) = b by omega]
    by_cases hq : uN x / 2 ^ b % 2 ^ 3 = l
    · obtain ⟨t0, t1, t2⟩ := t.mp hq
      rw [decide_eq_true hq, t0, t1, t2]
      exact sq_b6t _ _ _
    · rw [decide_eq_false hq]
      exact sq_b6f _ _ _ _ _ _ (fun z => hq (t.mpr z))
  · have : (decide (b < 63) && decide (b % 3 = 0)) = false := by
      rw [← Bool.decide_and]
      exact decide_eq_false h
    rw [this, Bool.and_false, Bool.false_and]
theorem sq_c3 (p : Nat → Bool) : ∀ k, sq_c (fun b => decide (b % 3 = 0) && p (b / 3)) (3 * k) = sq_c p k := by
  intro k
  induction k with
  | zero => rfl
  | succ k ih =>
    rw [show 3 * (k + 1) = 3 * k + 1 + 1 + 1 by omega, sq_cf, sq_cf, sq_cs, sq_cs, ih]
    · show _ + (if (decide (3 * k % 3 = 0) && p (3 * k / 3)) = true then 1 else 0) = _
      rw [show 3 * k % 3 = 0 by omega, show 3 * k / 3 = k by omega, decide_eq_true rfl, Bool.true_and]
    · show (decide ((3 * k + 1) % 3 = 0) && _) = false
      rw [decide_eq_false (by omega), Bool.false_and]
    · show (decide ((3 * k + 1 + 1) % 3 = 0) && _) = false
      rw [decide_eq_false (by omega), Bool.false_and]
theorem sq_samec (x : Int64) {l : Nat} (hl : l < 8) {f : Nat} (hf : f ≤ 21) : sq_c (fun q => (uN (sq_same x (nI l))).testBit q) (3 * f) = sq_c (fun j => decide (uN x / 2 ^ (3 * j) % 2 ^ 3 = l)) f := by
  rw [← sq_c3 (fun j => decide (uN x / 2 ^ (3 * j) % 2 ^ 3 = l)) f]
  exact sq_ccg (3 * f) (fun b hb => by
    show (uN (sq_same x (nI l))).testBit b = (decide (b % 3 = 0) && decide (uN x / 2 ^ (3 * (b / 3)) % 2 ^ 3 = l))
    rw [sq_sameb x hl (by omega), decide_eq_true (show b < 63 by omega), Bool.true_and])
theorem sq_same64 (x : Int64) {l : Nat} (hl : l < 8) : sq_pc (sq_same x (nI l)) = sq_c (fun j => decide (uN x / 2 ^ (3 * j) % 2 ^ 3 = l)) 21 := by
  rw [← sq_samec x hl (Nat.le_refl 21)]
  exact sq_cf (by
    show (uN (sq_same x (nI l))).testBit 63 = false
    rw [sq_sameb x hl (by omega)]
    rfl)
end
section
-- Part 09: further pure rows: zeros, the sparse engine's packing, runs, select, below, most.
theorem sq_cuni {p : Nat → Bool} {a b : Nat} (ha : p a = true) (hb : p b = true) (h : sq_c p a = sq_c p b) : a = b := by
  rcases Nat.lt_trichotomy a b with z | z | z
  · have := sq_clt z ha; omega
  · exact z
  · have := sq_clt z hb; omega
/-- zeros before p -/
def sq_z (R : Nat → Bool) (p : Nat) : Nat := sq_c (fun q => !R q) p
theorem sq_zt {R : Nat → Bool} {p : Nat} (h : R p = false) : sq_z R (p + 1) = sq_z R p + 1 := sq_ct (by show (!R p) = true; rw [h]; rfl)
theorem sq_zf {R : Nat → Bool} {p : Nat} (h : R p = true) : sq_z R (p + 1) = sq_z R p := sq_cf (by show (!R p) = false; rw [h]; rfl)
theorem sq_zw (a : Nat → Int64) (k : Nat) : sq_z (sq_B a) (64 * k + 64) = sq_z (sq_B a) (64 * k) + (64 - sq_pc (a k)) := by
  have h1 := sq_cnot (sq_B a) (64 * k + 64)
  have h2 := sq_cnot (sq_B a) (64 * k)
  have h3 := sq_pcw a 0 k
  have e : (fun t => sq_B a (64 * 0 + t)) = sq_B a := by funext t; rw [Nat.mul_zero, Nat.zero_add]
  rw [e, Nat.zero_add] at h3
  have h4 := sq_pcle (a k)
  have h5 : sq_z (sq_B a) (64 * k + 64) = sq_c (fun q => !sq_B a q) (64 * k + 64) := rfl
  have h6 : sq_z (sq_B a) (64 * k) = sq_c (fun q => !sq_B a q) (64 * k) := rfl
  omega
/-- zero number k of the sparse row is where the bucket k ends -/
theorem sq_zk {L : Nat → Nat} {n : Nat} {R : Nat → Bool} (hn : n ≤ 200) (H : sq_Hi L n R) {k P : Nat} (hk : k < 256) (h1 : R P = false) (h2 : sq_z R P = k) : P = k + sq_k L n (8 * k + 8) := by
  have a := sq_zero hn H hk
  have b := sq_zones hn H hk
  have c := sq_cnot R (k + sq_k L n (8 * k + 8))
  refine sq_cuni (p := fun q => !R q) (by show (!R P) = true; rw [h1]; rfl) (by show (!R _) = true; rw [a]; rfl) ?_
  have h2' : sq_c (fun q => !R q) P = k := h2
  omega
theorem sq_z512 {L : Nat → Nat} {n : Nat} {R : Nat → Bool} (hn : n ≤ 200) (H : sq_Hi L n R) {k : Nat} (hk : k < 256) : k < sq_z R 512 := by
  have a := sq_zero hn H hk
  have b := sq_zones hn H hk
  have c := sq_cnot R (k + sq_k L n (8 * k + 8))
  have d := sq_kle L n (8 * k + 8)
  have e := sq_clt (p := fun q => !R q) (show k + sq_k L n (8 * k + 8) < 512 by omega) (by show (!R _) = true; rw [a]; rfl)
  have e' : sq_c (fun q => !R q) (k + sq_k L n (8 * k + 8)) < sq_z R 512 := e
  omega
-- ---- packing the sparse row ----
def sq_SI (L : Nat → Nat) (n m : Nat) (R : Nat → Bool) (lo : Nat → Int64) : Prop :=
  (∀ P, P < 512 → (R P = true ↔ ∃ q, q < n ∧ 256 * L q + q < m ∧ P = (256 * L q + q) / 8 + sq_k L n (256 * L q + q))) ∧
  (∀ q, q < n → 256 * L q + q < m → sq_F 3 21 lo (sq_k L n (256 * L q + q)) = q % 8) ∧
  (∀ x, sq_k L n m ≤ x → x < 210 → sq_F 3 21 lo x = 0)
theorem sq_k0 (L : Nat → Nat) (n : Nat) : sq_k L n 0 = 0 := sq_cnone n (fun j _ => decide_eq_false (by omega))
theorem sq_SI0 {L : Nat → Nat} {n : Nat} {R : Nat → Bool} {lo : Nat → Int64} (hR : ∀ P, P < 512 → R P = false) (hl : ∀ x, x < 210 → sq_F 3 21 lo x = 0) : sq_SI L n 0 R lo :=
  ⟨fun P hP => ⟨fun h => by rw [hR P hP] at h; exact absurd h (by decide), fun ⟨q, _, h, _⟩ => by omega⟩, fun q _ h => by omega, fun x _ hx => hl x hx⟩
theorem sq_SIn {L : Nat → Nat} {n m m' : Nat} {R : Nat → Bool} {lo : Nat → Int64} (H : sq_SI L n m R lo) (hm : m ≤ m') (h : ∀ q, q < n → 256 * L q + q < m' → 256 * L q + q < m) : sq_SI L n m' R lo := by
  obtain ⟨h1, h2, h3⟩ := H
  refine ⟨fun P hP => ?_, fun q hq hqm => h2 q hq (h q hq hqm), fun x hx hx2 => h3 x (Nat.le_trans (sq_kmono L n hm) hx) hx2⟩
  rw [h1 P hP]
  exact ⟨fun ⟨q, a, b, c⟩ => ⟨q, a, by omega, c⟩, fun ⟨q, a, b, c⟩ => ⟨q, a, h q a b, c⟩⟩
theorem sq_SIs {L : Nat → Nat} {n p : Nat} {R R' : Nat → Bool} {lo lo' : Nat → Int64} (hn : n ≤ 200) (hp : p < n) (H : sq_SI L n (256 * L p + p) R lo)
    (hR : ∀ P, R' P = (R P || decide (P = (256 * L p + p) / 8 + sq_k L n (256 * L p + p))))
    (hl : ∀ x, sq_F 3 21 lo' x = if x = sq_k L n (256 * L p + p) then p % 8 else sq_F 3 21 lo x) : sq_SI L n (256 * L p + p + 1) R' lo' := by
  obtain ⟨h1, h2, h3⟩ := H
  have t := sq_kt (L := L) (q := p) n (by omega) hp
  refine ⟨fun P hP => ?_, fun q hq hqm => ?_, fun x hx hx2 => ?_⟩
  · rw [hR P, Bool.or_eq_true, h1 P hP, decide_eq_true_iff]
    constructor
    · rintro (⟨q, a, b, c⟩ | e)
      · exact ⟨q, a, by omega, c⟩
      · exact ⟨p, hp, by omega, e⟩
    · rintro ⟨q, a, b, c⟩
      by_cases e : 256 * L q + q = 256 * L p + p
      · rw [e] at c; exact Or.inr c
      · exact Or.inl ⟨q, a, by omega, c⟩
  · rw [hl]
    by_cases e : 256 * L q + q = 256 * L p + p
    · rw [e, if_pos rfl]
      omega
    · have := sq_kep (L := L) (n := n) (m := 256 * L p + p) (by omega) hq (by omega)
      rw [if_neg (by omega)]
      exact h2 q hq (by omega)
  · rw [hl, if_neg (by omega)]
    exact h3 x (by omega) hx2
theorem sq_SIe {L : Nat → Nat} {n : Nat} {R : Nat → Bool} {lo : Nat → Int64} (hL : ∀ j, L j < 8) (hn : n ≤ 200) (H : sq_SI L n 2048 R lo) :
    sq_Hi L n R ∧ ∀ q, q < n → sq_F 3 21 lo (sq_k L n (256 * L q + q)) = q % 8 := by
  obtain ⟨h1, h2, _⟩ := H
  refine ⟨fun P hP => ?_, fun q hq => h2 q hq (by have := hL q; omega)⟩
  rw [h1 P hP]
  exact ⟨fun ⟨q, a, _, c⟩ => ⟨q, a, c⟩, fun ⟨q, a, c⟩ => ⟨q, a, by have := hL q; omega, c⟩⟩
-- ---- rank, below ----
def sq_rk (L : Nat → Nat) (l i : Nat) : Nat := sq_c (fun q => decide (L q = l)) i
theorem sq_rkle (L : Nat → Nat) (l i : Nat) : sq_rk L l i ≤ i := sq_cle _ i
theorem sq_rkmono (L : Nat → Nat) (l : Nat) {i j : Nat} (h : i ≤ j) : sq_rk L l i ≤ sq_rk L l j := sq_cmono _ h
theorem sq_rkt {L : Nat → Nat} {l i : Nat} (h : L i = l) : sq_rk L l (i + 1) = sq_rk L l i + 1 := sq_ct (decide_eq_true h)
theorem sq_rkf {L : Nat → Nat} {l i : Nat} (h : ¬ L i = l) : sq_rk L l (i + 1) = sq_rk L l i := sq_cf (decide_eq_false h)
/-- places before i with a letter below m -/
def sq_cb (L : Nat → Nat) (m i : Nat) : Nat := sq_c (fun q => decide (L q < m)) i
theorem sq_cb0 (L : Nat → Nat) (i : Nat) : sq_cb L 0 i = 0 := sq_cnone i (fun j _ => decide_eq_false (by omega))
theorem sq_cbs (L : Nat → Nat) (m i : Nat) : sq_cb L (m + 1) i = sq_cb L m i + sq_rk L m i := by
  unfold sq_cb sq_rk
  rw [sq_cspl (fun q => decide (L q < m + 1)) (fun q => decide (L q < m)) i]
  congr 1
  · refine sq_ccg i (fun j _ => ?_)
    show (decide (L j < m + 1) && decide (L j < m)) = decide (L j < m)
    rw [← Bool.decide_and]
    exact decide_eq_decide.mpr (by omega)
  · refine sq_ccg i (fun j _ => ?_)
    show (decide (L j < m + 1) && !decide (L j < m)) = decide (L j = m)
    rw [← decide_not, ← Bool.decide_and]
    exact decide_eq_decide.mpr (by omega)
theorem sq_cb8 {L : Nat → Nat} (hL : ∀ j, L j < 8) (i : Nat) : sq_cb L 8 i = i := sq_call i (fun j _ => decide_eq_true (hL j))
theorem sq_cbmono (L : Nat → Nat) (m : Nat) {i j : Nat} (h : i ≤ j) : sq_cb L m i ≤ sq_cb L m j := sq_cmono _ h
theorem sq_cble (L : Nat → Nat) (m i : Nat) : sq_cb L m i ≤ i := sq_cle _ i
theorem sq_cbt {L : Nat → Nat} {m i : Nat} (h : L i < m) : sq_cb L m (i + 1) = sq_cb L m i + 1 := sq_ct (decide_eq_true h)
theorem sq_cbf {L : Nat → Nat} {m i : Nat} (h : ¬ L i < m) : sq_cb L m (i + 1) = sq_cb L m i := sq_cf (decide_eq_false h)
-- ---- most ----
def sq_mo (c : Nat → Nat) : Nat → Nat
  | 0 => 0
  | m + 1 => if c (sq_mo c m) < c m then m else sq_mo c m
def sq_mx (c : Nat → Nat) : Nat → Nat
  | 0 => 0
  | m + 1 => if sq_mx c m < c m then c m else sq_mx c m
theorem sq_mole (c : Nat → Nat) : ∀ m, sq_mo c (m + 1) ≤ m := by
  intro m
  induction m with
  | zero => show (if c 0 < c 0 then 0 else 0) ≤ 0; split <;> exact Nat.le_refl _
  | succ m ih =>
    show (if c (sq_mo c (m + 1)) < c (m + 1) then m + 1 else sq_mo c (m + 1)) ≤ m + 1
    split <;> omega
theorem sq_momx (c : Nat → Nat) : ∀ m, sq_mx c (m + 1) = c (sq_mo c (m + 1)) := by
  intro m
  induction m with
  | zero =>
    show (if 0 < c 0 then c 0 else 0) = c (if c 0 < c 0 then 0 else 0)
    rw [if_neg (Nat.lt_irrefl _)]
    split <;> omega
  | succ m ih =>
    show (if sq_mx c (m + 1) < c (m + 1) then c (m + 1) else sq_mx c (m + 1)) = c (if c (sq_mo c (m + 1)) < c (m + 1) then m + 1 else sq_mo c (m + 1))
    rw [ih]
    split <;> rfl
theorem sq_mxge (c : Nat → Nat) {l : Nat} : ∀ m, l < m → c l ≤ sq_mx c m := by
  intro m
  induction m with
  | zero => intro h; omega
  | succ m ih =>
    intro h
    show c l ≤ (if sq_mx c m < c m then c m else sq_mx c m)
    by_cases e : l = m
    · subst e; split <;> omega
    · have := ih (by omega)
      split <;> omega
-- ---- runs ----
def sq_ch (L : Nat → Nat) (i : Nat) : Bool := decide (i = 0 ∨ L i ≠ L (i - 1))
/-- the runs kept so far: r of them, up to place s -/
def sq_RI (L : Nat → Nat) (a : Nat → Int64) (r s : Nat) (st : Nat → Nat) : Prop :=
  st 0 = 0 ∧ st r = s ∧ ∀ k, k < r → st k < st (k + 1) ∧ st (k + 1) ≤ s ∧ sq_F 11 5 a k = L (st k) * 256 + (st (k + 1) - st k) ∧ ∀ q, st k ≤ q → q < st (k + 1) → L q = L (st k)
theorem sq_RIs {L : Nat → Nat} {a a' : Nat → Int64} {r s p : Nat} {st : Nat → Nat} (H : sq_RI L a r s st) (hp : s < p) (hc : ∀ q, s ≤ q → q < p → L q = L s)
    (hF : ∀ k, sq_F 11 5 a' k = if k = r then L s * 256 + (p - s) else sq_F 11 5 a k) : sq_RI L a' (r + 1) p (fun k => if k ≤ r then st k else p) := by
  obtain ⟨h0, h1, h2⟩ := H
  refine ⟨?_, ?_, ?_⟩
  · show (if 0 ≤ r then st 0 else p) = 0
    rw [if_pos (Nat.zero_le _)]; exact h0
  · show (if r + 1 ≤ r then st (r + 1) else p) = p
    rw [if_neg (by omega)]
  · intro k hk
    show (if k ≤ r then st k else p) < (if k + 1 ≤ r then st (k + 1) else p) ∧ (if k + 1 ≤ r then st (k + 1) else p) ≤ p ∧
      sq_F 11 5 a' k = L (if k ≤ r then st k else p) * 256 + ((if k + 1 ≤ r then st (k + 1) else p) - (if k ≤ r then st k else p)) ∧
      ∀ q, (if k ≤ r then st k else p) ≤ q → q < (if k + 1 ≤ r then st (k + 1) else p) → L q = L (if k ≤ r then st k else p)
    rw [if_pos (show k ≤ r by omega), hF]
    by_cases e : k = r
    · subst e
      rw [if_neg (show ¬ k + 1 ≤ k by omega), if_pos rfl, h1]
      exact ⟨hp, Nat.le_refl _, rfl, hc⟩
    · rw [if_pos (show k + 1 ≤ r by omega), if_neg e]
      obtain ⟨a1, a2, a3, a4⟩ := h2 k (by omega)
      exact ⟨a1, by omega, a3, a4⟩
theorem sq_RIr {L : Nat → Nat} {a : Nat → Int64} {r s : Nat} {st : Nat → Nat} (H : sq_RI L a r s st) : ∀ k, k ≤ r → k ≤ st k := by
  intro k
  induction k with
  | zero => intro _; exact Nat.zero_le _
  | succ k ih =>
    intro hk
    have := ih (by omega)
    have := (H.2.2 k (by omega)).1
    omega
/-- the rank within a run -/
theorem sq_rkrun {L : Nat → Nat} {s e l : Nat} (h : ∀ q, s ≤ q → q < e → L q = L s) : ∀ d, s + d ≤ e → sq_rk L l (s + d) = sq_rk L l s + (if L s = l then d else 0) := by
  intro d
  induction d with
  | zero => intro _; rw [Nat.add_zero]; split <;> rfl
  | succ d ih =>
    intro hd
    have i1 := ih (by omega)
    have i2 := h (s + d) (by omega) (by omega)
    rw [← Nat.add_assoc]
    by_cases e1 : L s = l
    · rw [if_pos e1] at i1 ⊢
      rw [sq_rkt (i2.trans e1), i1]; omega
    · rw [if_neg e1] at i1 ⊢
      rw [sq_rkf (fun z => e1 (i2.symm.trans z)), i1]
-- ---- plain: ranks by words of 21 ----
theorem sq_rk21 {L : Nat → Nat} {n l : Nat} {a : Nat → Int64} (H : ∀ p, p < n → sq_F 3 21 a p = L p) {w f : Nat} (hf : f ≤ 21) (hw : 21 * w + f ≤ n) :
    sq_rk L l (21 * w + f) = sq_rk L l (21 * w) + sq_c (fun j => decide (uN (a w) / 2 ^ (3 * j) % 2 ^ 3 = l)) f := by
  unfold sq_rk
  rw [sq_cadd]
  congr 1
  refine sq_ccg f (fun j hj => ?_)
  show decide (L (21 * w + j) = l) = decide (uN (a w) / 2 ^ (3 * j) % 2 ^ 3 = l)
  rw [← H (21 * w + j) (by omega)]
  unfold sq_F
  rw [show (21 * w + j) / 21 = w by omega, show (21 * w + j) % 21 = j by omega]
-- ---- select ----
theorem sq_selend {L : Nat → Nat} {l n k p : Nat} (h1 : sq_rk L l p ≤ k) (h2 : p ≤ n) (h3 : n < p + 1 ∨ k < sq_rk L l (p + 1)) (h4 : k < sq_rk L l n) : p < n ∧ L p = l ∧ sq_rk L l p = k := by
  have a : p ≠ n := fun e => by rw [e] at h1; omega
  have b : p < n := by omega
  have c : k < sq_rk L l (p + 1) := by omega
  by_cases e : L p = l
  · rw [sq_rkt e] at c
    exact ⟨b, e, by omega⟩
  · rw [sq_rkf e] at c
    omega
theorem sq_selbef {L : Nat → Nat} {l i p k : Nat} (h : i < p) (hk : sq_rk L l p = k) (hi : L i = l) : sq_rk L l i < k := by
  have a := sq_rkmono L l (show i + 1 ≤ p by omega)
  rw [sq_rkt hi] at a
  omega
end
section
-- Part 10: the stream of words: where each begins, writing, reading.
/-- where the word of place q begins -/
def sq_T (L len : Nat → Nat) (q : Nat) : Nat := sq_s (fun j => len (L j)) q
theorem sq_Ts (L len : Nat → Nat) (q : Nat) : sq_T L len (q + 1) = sq_T L len q + len (L q) := rfl
theorem sq_Tmono (L len : Nat → Nat) {a : Nat} : ∀ b, a ≤ b → sq_T L len a ≤ sq_T L len b := by
  intro b
  induction b with
  | zero => intro h; rw [show a = 0 by omega]; exact Nat.le_refl _
  | succ b ih =>
    intro h
    by_cases e : a = b + 1
    · rw [e]; exact Nat.le_refl _
    · have := ih (by omega)
      rw [sq_Ts]
      omega
/-- a word being written at t, c bits so far -/
def sq_WS (R0 R : Nat → Bool) (t w len c : Nat) : Prop :=
  (∀ P, P < t → R P = R0 P) ∧ (∀ d, d < c → R (t + d) = w.testBit (len - 1 - d)) ∧ ∀ P, t + c ≤ P → P < 640 → R P = false
theorem sq_WS0 {R0 : Nat → Bool} {t w len : Nat} (h : ∀ P, t ≤ P → P < 640 → R0 P = false) : sq_WS R0 R0 t w len 0 :=
  ⟨fun _ _ => rfl, fun d hd => by omega, fun P hP hM => h P (by omega) hM⟩
theorem sq_WS1 {R0 R R' : Nat → Bool} {t w len c : Nat} (H : sq_WS R0 R t w len c) (hb : w.testBit (len - 1 - c) = true) (hR : ∀ P, R' P = (R P || decide (P = t + c))) : sq_WS R0 R' t w len (c + 1) := by
  obtain ⟨h1, h2, h3⟩ := H
  refine ⟨fun P hP => ?_, fun d hd => ?_, fun P hP hM => ?_⟩
  · rw [hR, decide_eq_false (by omega), Bool.or_false]; exact h1 P hP
  · rw [hR]
    by_cases e : d = c
    · subst e; rw [decide_eq_true rfl, Bool.or_true, hb]
    · rw [decide_eq_false (by omega), Bool.or_false]; exact h2 d (by omega)
  · rw [hR, decide_eq_false (by omega), Bool.or_false]; exact h3 P (by omega) hM
theorem sq_WS2 {R0 R : Nat → Bool} {t w len c : Nat} (H : sq_WS R0 R t w len c) (hb : w.testBit (len - 1 - c) = false) (hc : t + c < 640) : sq_WS R0 R t w len (c + 1) := by
  obtain ⟨h1, h2, h3⟩ := H
  refine ⟨h1, fun d hd => ?_, fun P hP hM => h3 P (by omega) hM⟩
  by_cases e : d = c
  · subst e; rw [h3 _ (Nat.le_refl _) hc, hb]
  · exact h2 d (by omega)
/-- the stream up to place q -/
def sq_SW (L len : Nat → Nat) (q : Nat) (R : Nat → Bool) : Prop :=
  (∀ j, j < q → ∀ d, d < len (L j) → R (sq_T L len j + d) = (sq_w len (L j)).testBit (len (L j) - 1 - d)) ∧ ∀ P, sq_T L len q ≤ P → P < 640 → R P = false
theorem sq_SWs {L len : Nat → Nat} {q : Nat} {R R' : Nat → Bool} (H : sq_SW L len q R) (W : sq_WS R R' (sq_T L len q) (sq_w len (L q)) (len (L q)) (len (L q))) : sq_SW L len (q + 1) R' := by
  refine ⟨fun j hj d hd => ?_, fun P hP hM => W.2.2 P hP hM⟩
  by_cases e : j = q
  · subst e; exact W.2.1 d hd
  · have a := sq_Tmono L len (a := j + 1) q (by omega)
    rw [sq_Ts] at a
    rw [W.1 _ (by omega)]
    exact H.1 j (by omega) d hd
/-- the code's part of the packed state -/
def sq_CP (L : Nat → Nat) (n : Nat) (len : Nat → Nat) (cl col lbc : Nat → Int32) (R : Nat → Bool) (ss sr : Nat → Int32) (sl : Int32) : Prop :=
  sq_OK (fun l => sq_rk L l n) len ∧ (∀ l, l < 8 → cl l = nI (len l)) ∧ (∀ s, 1 ≤ s → s < 8 → col s = nI (sq_n len s)) ∧
  (∀ l, l < 8 → 1 ≤ len l → lbc (sq_ix len l) = nI l) ∧ sq_SW L len n R ∧
  (∀ s, 16 * s ≤ n → ss s = nI (sq_T L len (16 * s)) ∧ ∀ l, l < 8 → sr (8 * s + l) = nI (sq_rk L l (16 * s))) ∧
  sl = nI (sq_T L len n) ∧ sq_T L len n = sq_bits (fun l => sq_rk L l n) n
/-- a place's letter has a word -/
theorem sq_CPl {L : Nat → Nat} {n : Nat} {len : Nat → Nat} (hL : ∀ j, L j < 8) (H : sq_OK (fun l => sq_rk L l n) len) {q : Nat} (hq : q < n) : 1 ≤ len (L q) ∧ len (L q) ≤ 7 := by
  refine H.1 (L q) (hL q) ?_
  show 0 < sq_rk L (L q) n
  have a := sq_rkmono L (L q) (show q + 1 ≤ n by omega)
  rw [sq_rkt rfl] at a
  omega
end
section
-- Part 11: what the packed arrays hold; numbers.
def sq_P0 (L : Nat → Nat) (n : Nat) (pw : Nat → Int64) : Prop := ∀ p, p < n → sq_F 3 21 pw p = L p
def sq_P1 (L : Nat → Nat) (n : Nat) (tb : Nat → Int64) : Prop := ∀ l, l < 3 → sq_Row L n l (sq_st L n l) (sq_B tb)
def sq_P2 (L : Nat → Nat) (n : Nat) (mb : Nat → Int64) (mz : Nat → Int32) : Prop := ∀ l, l < 3 → sq_Row L n l (sq_mst L n l) (sq_B mb) ∧ mz l = nI (n - sq_o (sq_B mb) l n)
def sq_P3 (L : Nat → Nat) (n : Nat) (lr : Nat → Int64) : Prop := ∀ l, l < 8 → ∀ p, p < n → sq_B lr (256 * l + p) = decide (L p = l)
def sq_P4 (L : Nat → Nat) (n : Nat) (rw : Nat → Int64) (rc : Int32) : Prop := ∃ (r : Nat) (st : Nat → Nat), rc = nI r ∧ r = sq_c (sq_ch L) n ∧ sq_RI L rw r n st
def sq_P6 (L : Nat → Nat) (n : Nat) (hi lo : Nat → Int64) : Prop := sq_Hi L n (sq_B hi) ∧ ∀ q, q < n → sq_F 3 21 lo (sq_k L n (256 * L q + q)) = q % 8
/-- the letters as the arrays hold them -/
def sq_l (L : Nat → Nat) : Nat → Int32 := fun j => nI (L j)
theorem sq_lup (L : Nat → Nat) (k v : Nat) : upd (sq_l L) k (nI v) = sq_l (fun j => if j = k then v else L j) := by
  funext j
  show (if j = k then nI v else nI (L j)) = nI (if j = k then v else L j)
  split <;> rfl
theorem sq_nar : ∀ l, l < 8 → vp_nar .byte (nI l) = nI l := by
  intro l hl
  rw [vp_nar_byte]
  have : ∀ l, l < 8 → (nI l).toInt8.toInt32 = nI l := by decide +kernel
  exact this l hl
theorem sq_i8b : ∀ l, l < 8 → (nI l).toInt8.toInt32 = nI l := by decide +kernel
theorem sq_fb : ∀ l, l < 8 → fits .byte (.int (nI l)) = true := by
  intro l hl
  rw [← sq_i8b l hl]
  exact pk_fb _
theorem sq_nar2 (l : Nat) (hl : l < 8) : vp_nar .byte (nI l).toInt8.toInt32 = nI l := by rw [sq_i8b l hl, sq_nar l hl]
theorem sq_nor {a b : Nat} : nI a ||| nI b = nI (a ||| b) := by
  apply Int32.toBitVec_inj.1
  show BitVec.ofNat 32 a ||| BitVec.ofNat 32 b = BitVec.ofNat 32 (a ||| b)
  apply BitVec.eq_of_getLsbD_eq
  intro i hi
  simp [hi]
theorem sq_sh1 : ∀ l, l < 8 → (1 : Int32) <<< (nI l &&& 31) = nI (2 ^ l) := by decide +kernel
/-- the top bits, and one bit, of a letter -/
theorem sq_top : ∀ v, v < 8 → ∀ l, l < 3 → nI v >>> ((3 - nI l) &&& 31) = nI (v / 2 ^ (3 - l)) := by decide +kernel
theorem sq_lbit : ∀ v, v < 8 → ∀ l, l < 3 → (nI v >>> ((2 - nI l) &&& 31)) &&& 1 = nI (v / 2 ^ (2 - l) % 2) := by decide +kernel
theorem sq_m1ne {a : Nat} (h : a < 2 ^ 31) : ¬ nI a = -1 := by
  intro e
  have := congrArg Int32.toInt e
  rw [nI_toInt h, show (-1 : Int32).toInt = -1 from by decide] at this
  omega
theorem sq_m1ne' {a : Nat} (h : a < 2 ^ 31) : ¬ (-1 : Int32) = nI a := fun e => sq_m1ne h e.symm
end
section
-- Part 12: clear, setBit, bitAt, onesBefore, putTriple, tripleAt for each array (written by wip/whole/gen12.py)
theorem sq_v {α : Sort _} {P : α → Prop} {a b : α} (e : a = b) (h : P b) : P a := e ▸ h
theorem sq_q1le (m : Nat) : sq_q1 m ≤ m := Nat.sub_le _ _
theorem sq_q2lt (m : Nat) : sq_q2 m < 2 ^ 63 := by
  have a : (m &&& 3689348814741910323) ≤ 3689348814741910323 := Nat.and_le_right
  have b : (m / 4 &&& 3689348814741910323) ≤ 3689348814741910323 := Nat.and_le_right
  show (m &&& 3689348814741910323) + (m / 4 &&& 3689348814741910323) < 2 ^ 63
  omega
theorem sq_xones {post : Int32 → Prop} {x : Int64} (h : post (nI (sq_pc x))) : wpX_onesIn post x := by
  obtain ⟨m, hm, rfl⟩ := wb_of x
  have e : sq_pc (lN m) = sq_q3 (sq_q2 (sq_q1 m)) * 72340172838076673 % 2 ^ 64 / 2 ^ 56 := by
    unfold sq_pc
    rw [sq_uNl hm]
    exact (sq_pop hm).symm
  rw [e] at h
  have b := sq_q1le m
  exact nm_r (sq_ones1 hm) (nm_r (sq_ones2 (by omega)) (nm_r (sq_ones3 (sq_q2lt _)) (sq_v (P := post) (sq_ones4 _) h)))
theorem sq_setw (a : Nat → Int64) {p : Nat} (hp : p < 2 ^ 31) : vp_updL a (nI p >>> ((6 : Int32) &&& 31)).toNatClampNeg ((a (nI p >>> ((6 : Int32) &&& 31)).toNatClampNeg) ||| ((1 : Int64) <<< ((nI p &&& 63).toInt64 &&& 63))) = vp_updL a (p / 64) (a (p / 64) ||| lN (2 ^ (p % 64))) := by
  rw [sq_div6 hp, sq_mod6 hp, nI_clamp (by omega), sq_one (by omega)]
theorem sq_bitof (a : Nat → Int64) {p : Nat} (hp : p < 2 ^ 31) : ((((a (nI p >>> ((6 : Int32) &&& 31)).toNatClampNeg).toUInt64 >>> ((nI p &&& 63).toInt64.toUInt64 &&& Int64.toUInt64 63)).toInt64).toInt32) &&& 1 = nI (sq_B a p).toNat := by
  rw [sq_div6 hp, sq_mod6 hp, nI_clamp (by omega), sq_bitw _ (by omega)]
  rfl
theorem sq_d21 {p : Nat} (hp : p < 2 ^ 31) : nI p / 21 = nI (p / 21) := pk_div (d := 21) hp (by decide) (by decide)
theorem sq_r21 {p : Nat} (hp : p < 2 ^ 31) : (nI p - nI p / 21 * 21) * 3 = nI (3 * (p % 21)) := by
  have e : nI p - nI p / 21 * 21 = nI (p % 21) := pk_rem (d := 21) hp (by decide) (by decide)
  rw [e, Nat.mul_comm]
  exact pk_mul (p % 21) 3
theorem sq_tripw (a : Nat → Int64) {p v : Nat} (hp : p < 2 ^ 31) (hv : v < 8) : vp_updL a (nI p / 21).toNatClampNeg ((a (nI p / 21).toNatClampNeg) ||| ((nI v).toInt64 <<< (((nI p - nI p / 21 * 21) * 3).toInt64 &&& 63))) = vp_updL a (p / 21) (a (p / 21) ||| lN (v * 2 ^ (3 * (p % 21)))) := by
  rw [sq_r21 hp, sq_d21 hp, nI_clamp (by omega), sq_putw (by omega) (by omega)]
theorem sq_tripg (a : Nat → Int64) {p : Nat} (hp : p < 2 ^ 31) : ((((a (nI p / 21).toNatClampNeg).toUInt64 >>> (((nI p - nI p / 21 * 21) * 3).toInt64.toUInt64 &&& Int64.toUInt64 63)).toInt64).toInt32) &&& 7 = nI (sq_F 3 21 a p) := by
  rw [sq_r21 hp, sq_d21 hp, nI_clamp (by omega), sq_getw (b := 3) _ (by omega) (by decide) (by decide)]
  rfl
section
variable {f_length f_runCount f_streamLength : Int32} {a_letters : Nat → Int32} {a_plainWords a_treeBits a_matrixBits : Nat → Int64} {a_matrixZeros : Nat → Int32} {a_letterRows a_runWords : Nat → Int64} {a_letterCounts a_groupWeights a_groupOf a_codeLengths a_codes a_codesOfLength a_lettersByCode : Nat → Int32} {a_stream : Nat → Int64} {a_sampleStarts a_sampleRanks : Nat → Int32} {a_sparseHigh a_sparseLow : Nat → Int64}
theorem sq_xclear_plainWords {post : SX → Prop} (h : ∀ a', (∀ w, w < 10 → a' w = 0) → post (f_length, f_runCount, f_streamLength, a_letters, a', a_treeBits, a_matrixBits, a_matrixZeros, a_letterRows, a_runWords, a_letterCounts, a_groupWeights, a_groupOf, a_codeLengths, a_codes, a_codesOfLength, a_lettersByCode, a_stream, a_sampleStarts, a_sampleRanks, a_sparseHigh, a_sparseLow)) : wpX_clear__plainWords post (f_length, f_runCount, f_streamLength, a_letters, a_plainWords, a_treeBits, a_matrixBits, a_matrixZeros, a_letterRows, a_runWords, a_letterCounts, a_groupWeights, a_groupOf, a_codeLengths, a_codes, a_codesOfLength, a_lettersByCode, a_stream, a_sampleStarts, a_sampleRanks, a_sparseHigh, a_sparseLow) :=
  loop_0 (σ := Nat → Int64) (fun n i a => wX_clear__plainWords_2 post f_length f_runCount f_streamLength n (nI i) a_letters a a_treeBits a_matrixBits a_matrixZeros a_letterRows a_runWords a_letterCounts a_groupWeights a_groupOf a_codeLengths a_codes a_codesOfLength a_lettersByCode a_stream a_sampleStarts a_sampleRanks a_sparseHigh a_sparseLow) (fun i a => ∀ w, w < i → a w = 0) 10 a_plainWords (fun w hw => absurd hw (Nat.not_lt_zero w))
    (fun n a ha => br_t (nI_le (Nat.le_refl 10) (by decide)) (h a ha))
    (fun n i a hi ha k => br_f (nI_ge (b := 10) hi (by decide)) ⟨vp_in_nI hi (by decide), nm_r (congrArg (fun z => vp_updL a z 0) (nI_clamp (by omega))) (nm_r (nI_1 i) (k _ (fun w hw => by
      by_cases e : w = i
      · rw [e, pk_uLs]
      · rw [pk_uLn e]; exact ha w (by omega))))⟩)
theorem sq_xclear_treeBits {post : SX → Prop} (h : ∀ a', (∀ w, w < 12 → a' w = 0) → post (f_length, f_runCount, f_streamLength, a_letters, a_plainWords, a', a_matrixBits, a_matrixZeros, a_letterRows, a_runWords, a_letterCounts, a_groupWeights, a_groupOf, a_codeLengths, a_codes, a_codesOfLength, a_lettersByCode, a_stream, a_sampleStarts, a_sampleRanks, a_sparseHigh, a_sparseLow)) : wpX_clear__treeBits post (f_length, f_runCount, f_streamLength, a_letters, a_plainWords, a_treeBits, a_matrixBits, a_matrixZeros, a_letterRows, a_runWords, a_letterCounts, a_groupWeights, a_groupOf, a_codeLengths, a_codes, a_codesOfLength, a_lettersByCode, a_stream, a_sampleStarts, a_sampleRanks, a_sparseHigh, a_sparseLow) :=
  loop_0 (σ := Nat → Int64) (fun n i a => wX_clear__treeBits_2 post f_length f_runCount f_streamLength n (nI i) a_letters a_plainWords a a_matrixBits a_matrixZeros a_letterRows a_runWords a_letterCounts a_groupWeights a_groupOf a_codeLengths a_codes a_codesOfLength a_lettersByCode a_stream a_sampleStarts a_sampleRanks a_sparseHigh a_sparseLow) (fun i a => ∀ w, w < i → a w = 0) 12 a_treeBits (fun w hw => absurd hw (Nat.not_lt_zero w))
    (fun n a ha => br_t (nI_le (Nat.le_refl 12) (by decide)) (h a ha))
    (fun n i a hi ha k => br_f (nI_ge (b := 12) hi (by decide)) ⟨vp_in_nI hi (by decide), nm_r (congrArg (fun z => vp_updL a z 0) (nI_clamp (by omega))) (nm_r (nI_1 i) (k _ (fun w hw => by
      by_cases e : w = i
      · rw [e, pk_uLs]
      · rw [pk_uLn e]; exact ha w (by omega))))⟩)
theorem sq_xclear_matrixBits {post : SX → Prop} (h : ∀ a', (∀ w, w < 12 → a' w = 0) → post (f_length, f_runCount, f_streamLength, a_letters, a_plainWords, a_treeBits, a', a_matrixZeros, a_letterRows, a_runWords, a_letterCounts, a_groupWeights, a_groupOf, a_codeLengths, a_codes, a_codesOfLength, a_lettersByCode, a_stream, a_sampleStarts, a_sampleRanks, a_sparseHigh, a_sparseLow)) : wpX_clear__matrixBits post (f_length, f_runCount, f_streamLength, a_letters, a_plainWords, a_treeBits, a_matrixBits, a_matrixZeros, a_letterRows, a_runWords, a_letterCounts, a_groupWeights, a_groupOf, a_codeLengths, a_codes, a_codesOfLength, a_lettersByCode, a_stream, a_sampleStarts, a_sampleRanks, a_sparseHigh, a_sparseLow) :=
  loop_0 (σ := Nat → Int64) (fun n i a => wX_clear__matrixBits_2 post f_length f_runCount f_streamLength n (nI i) a_letters a_plainWords a_treeBits a a_matrixZeros a_letterRows a_runWords a_letterCounts a_groupWeights a_groupOf a_codeLengths a_codes a_codesOfLength a_lettersByCode a_stream a_sampleStarts a_sampleRanks a_sparseHigh a_sparseLow) (fun i a => ∀ w, w < i → a w = 0) 12 a_matrixBits (fun w hw => absurd hw (Nat.not_lt_zero w))
    (fun n a ha => br_t (nI_le (Nat.le_refl 12) (by decide)) (h a ha))
    (fun n i a hi ha k => br_f (nI_ge (b := 12) hi (by decide)) ⟨vp_in_nI hi (by decide), nm_r (congrArg (fun z => vp_updL a z 0) (nI_clamp (by omega))) (nm_r (nI_1 i) (k _ (fun w hw => by
      by_cases e : w = i
      · rw [e, pk_uLs]
      · rw [pk_uLn e]; exact ha w (by omega))))⟩)
theorem sq_xclear_letterRows {post : SX → Prop} (h : ∀ a', (∀ w, w < 32 → a' w = 0) → post (f_length, f_runCount, f_streamLength, a_letters, a_plainWords, a_treeBits, a_matrixBits, a_matrixZeros, a', a_runWords, a_letterCounts, a_groupWeights, a_groupOf, a_codeLengths, a_codes, a_codesOfLength, a_lettersByCode, a_stream, a_sampleStarts, a_sampleRanks, a_sparseHigh, a_sparseLow)) : wpX_clear__letterRows post (f_length, f_runCount, f_streamLength, a_letters, a_plainWords, a_treeBits, a_matrixBits, a_matrixZeros, a_letterRows, a_runWords, a_letterCounts, a_groupWeights, a_groupOf, a_codeLengths, a_codes, a_codesOfLength, a_lettersByCode, a_stream, a_sampleStarts, a_sampleRanks, a_sparseHigh, a_sparseLow) :=
  loop_0 (σ := Nat → Int64) (fun n i a => wX_clear__letterRows_2 post f_length f_runCount f_streamLength n (nI i) a_letters a_plainWords a_treeBits a_matrixBits a_matrixZeros a a_runWords a_letterCounts a_groupWeights a_groupOf a_codeLengths a_codes a_codesOfLength a_lettersByCode a_stream a_sampleStarts a_sampleRanks a_sparseHigh a_sparseLow) (fun i a => ∀ w, w < i → a w = 0) 32 a_letterRows (fun w hw => absurd hw (Nat.not_lt_zero w))
    (fun n a ha => br_t (nI_le (Nat.le_refl 32) (by decide)) (h a ha))
    (fun n i a hi ha k => br_f (nI_ge (b := 32) hi (by decide)) ⟨vp_in_nI hi (by decide), nm_r (congrArg (fun z => vp_updL a z 0) (nI_clamp (by omega))) (nm_r (nI_1 i) (k _ (fun w hw => by
      by_cases e : w = i
      · rw [e, pk_uLs]
      · rw [pk_uLn e]; exact ha w (by omega))))⟩)
theorem sq_xclear_runWords {post : SX → Prop} (h : ∀ a', (∀ w, w < 40 → a' w = 0) → post (f_length, f_runCount, f_streamLength, a_letters, a_plainWords, a_treeBits, a_matrixBits, a_matrixZeros, a_letterRows, a', a_letterCounts, a_groupWeights, a_groupOf, a_codeLengths, a_codes, a_codesOfLength, a_lettersByCode, a_stream, a_sampleStarts, a_sampleRanks, a_sparseHigh, a_sparseLow)) : wpX_clear__runWords post (f_length, f_runCount, f_streamLength, a_letters, a_plainWords, a_treeBits, a_matrixBits, a_matrixZeros, a_letterRows, a_runWords, a_letterCounts, a_groupWeights, a_groupOf, a_codeLengths, a_codes, a_codesOfLength, a_lettersByCode, a_stream, a_sampleStarts, a_sampleRanks, a_sparseHigh, a_sparseLow) :=
  loop_0 (σ := Nat → Int64) (fun n i a => wX_clear__runWords_2 post f_length f_runCount f_streamLength n (nI i) a_letters a_plainWords a_treeBits a_matrixBits a_matrixZeros a_letterRows a a_letterCounts a_groupWeights a_groupOf a_codeLengths a_codes a_codesOfLength a_lettersByCode a_stream a_sampleStarts a_sampleRanks a_sparseHigh a_sparseLow) (fun i a => ∀ w, w < i → a w = 0) 40 a_runWords (fun w hw => absurd hw (Nat.not_lt_zero w))
    (fun n a ha => br_t (nI_le (Nat.le_refl 40) (by decide)) (h a ha))
    (fun n i a hi ha k => br_f (nI_ge (b := 40) hi (by decide)) ⟨vp_in_nI hi (by decide), nm_r (congrArg (fun z => vp_updL a z 0) (nI_clamp (by omega))) (nm_r (nI_1 i) (k _ (fun w hw => by
      by_cases e : w = i
      · rw [e, pk_uLs]
      · rw [pk_uLn e]; exact ha w (by omega))))⟩)
theorem sq_xclear_stream {post : SX → Prop} (h : ∀ a', (∀ w, w < 10 → a' w = 0) → post (f_length, f_runCount, f_streamLength, a_letters, a_plainWords, a_treeBits, a_matrixBits, a_matrixZeros, a_letterRows, a_runWords, a_letterCounts, a_groupWeights, a_groupOf, a_codeLengths, a_codes, a_codesOfLength, a_lettersByCode, a', a_sampleStarts, a_sampleRanks, a_sparseHigh, a_sparseLow)) : wpX_clear__stream post (f_length, f_runCount, f_streamLength, a_letters, a_plainWords, a_treeBits, a_matrixBits, a_matrixZeros, a_letterRows, a_runWords, a_letterCounts, a_groupWeights, a_groupOf, a_codeLengths, a_codes, a_codesOfLength, a_lettersByCode, a_stream, a_sampleStarts, a_sampleRanks, a_sparseHigh, a_sparseLow) :=
  loop_0 (σ := Nat → Int64) (fun n i a => wX_clear__stream_2 post f_length f_runCount f_streamLength n (nI i) a_letters a_plainWords a_treeBits a_matrixBits a_matrixZeros a_letterRows a_runWords a_letterCounts a_groupWeights a_groupOf a_codeLengths a_codes a_codesOfLength a_lettersByCode a a_sampleStarts a_sampleRanks a_sparseHigh a_sparseLow) (fun i a => ∀ w, w < i → a w = 0) 10 a_stream (fun w hw => absurd hw (Nat.not_lt_zero w))
    (fun n a ha => br_t (nI_le (Nat.le_refl 10) (by decide)) (h a ha))
    (fun n i a hi ha k => br_f (nI_ge (b := 10) hi (by decide)) ⟨vp_in_nI hi (by decide), nm_r (congrArg (fun z => vp_updL a z 0) (nI_clamp (by omega))) (nm_r (nI_1 i) (k _ (fun w hw => by
      by_cases e : w = i
      · rw [e, pk_uLs]
      · rw [pk_uLn e]; exact ha w (by omega))))⟩)
theorem sq_xclear_sparseHigh {post : SX → Prop} (h : ∀ a', (∀ w, w < 8 → a' w = 0) → post (f_length, f_runCount, f_streamLength, a_letters, a_plainWords, a_treeBits, a_matrixBits, a_matrixZeros, a_letterRows, a_runWords, a_letterCounts, a_groupWeights, a_groupOf, a_codeLengths, a_codes, a_codesOfLength, a_lettersByCode, a_stream, a_sampleStarts, a_sampleRanks, a', a_sparseLow)) : wpX_clear__sparseHigh post (f_length, f_runCount, f_streamLength, a_letters, a_plainWords, a_treeBits, a_matrixBits, a_matrixZeros, a_letterRows, a_runWords, a_letterCounts, a_groupWeights, a_groupOf, a_codeLengths, a_codes, a_codesOfLength, a_lettersByCode, a_stream, a_sampleStarts, a_sampleRanks, a_sparseHigh, a_sparseLow) :=
  loop_0 (σ := Nat → Int64) (fun n i a => wX_clear__sparseHigh_2 post f_length f_runCount f_streamLength n (nI i) a_letters a_plainWords a_treeBits a_matrixBits a_matrixZeros a_letterRows a_runWords a_letterCounts a_groupWeights a_groupOf a_codeLengths a_codes a_codesOfLength a_lettersByCode a_stream a_sampleStarts a_sampleRanks a a_sparseLow) (fun i a => ∀ w, w < i → a w = 0) 8 a_sparseHigh (fun w hw => absurd hw (Nat.not_lt_zero w))
    (fun n a ha => br_t (nI_le (Nat.le_refl 8) (by decide)) (h a ha))
    (fun n i a hi ha k => br_f (nI_ge (b := 8) hi (by decide)) ⟨vp_in_nI hi (by decide), nm_r (congrArg (fun z => vp_updL a z 0) (nI_clamp (by omega))) (nm_r (nI_1 i) (k _ (fun w hw => by
      by_cases e : w = i
      · rw [e, pk_uLs]
      · rw [pk_uLn e]; exact ha w (by omega))))⟩)
theorem sq_xclear_sparseLow {post : SX → Prop} (h : ∀ a', (∀ w, w < 10 → a' w = 0) → post (f_length, f_runCount, f_streamLength, a_letters, a_plainWords, a_treeBits, a_matrixBits, a_matrixZeros, a_letterRows, a_runWords, a_letterCounts, a_groupWeights, a_groupOf, a_codeLengths, a_codes, a_codesOfLength, a_lettersByCode, a_stream, a_sampleStarts, a_sampleRanks, a_sparseHigh, a')) : wpX_clear__sparseLow post (f_length, f_runCount, f_streamLength, a_letters, a_plainWords, a_treeBits, a_matrixBits, a_matrixZeros, a_letterRows, a_runWords, a_letterCounts, a_groupWeights, a_groupOf, a_codeLengths, a_codes, a_codesOfLength, a_lettersByCode, a_stream, a_sampleStarts, a_sampleRanks, a_sparseHigh, a_sparseLow) :=
  loop_0 (σ := Nat → Int64) (fun n i a => wX_clear__sparseLow_2 post f_length f_runCount f_streamLength n (nI i) a_letters a_plainWords a_treeBits a_matrixBits a_matrixZeros a_letterRows a_runWords a_letterCounts a_groupWeights a_groupOf a_codeLengths a_codes a_codesOfLength a_lettersByCode a_stream a_sampleStarts a_sampleRanks a_sparseHigh a) (fun i a => ∀ w, w < i → a w = 0) 10 a_sparseLow (fun w hw => absurd hw (Nat.not_lt_zero w))
    (fun n a ha => br_t (nI_le (Nat.le_refl 10) (by decide)) (h a ha))
    (fun n i a hi ha k => br_f (nI_ge (b := 10) hi (by decide)) ⟨vp_in_nI hi (by decide), nm_r (congrArg (fun z => vp_updL a z 0) (nI_clamp (by omega))) (nm_r (nI_1 i) (k _ (fun w hw => by
      by_cases e : w = i
      · rw [e, pk_uLs]
      · rw [pk_uLn e]; exact ha w (by omega))))⟩)
theorem sq_xset_treeBits {post : SX → Prop} {p : Nat} (hp : p < 768) (h : ∀ a', (∀ q, sq_B a' q = (sq_B a_treeBits q || decide (q = p))) → post (f_length, f_runCount, f_streamLength, a_letters, a_plainWords, a', a_matrixBits, a_matrixZeros, a_letterRows, a_runWords, a_letterCounts, a_groupWeights, a_groupOf, a_codeLengths, a_codes, a_codesOfLength, a_lettersByCode, a_stream, a_sampleStarts, a_sampleRanks, a_sparseHigh, a_sparseLow)) : wpX_setBit__treeBits post (f_length, f_runCount, f_streamLength, a_letters, a_plainWords, a_treeBits, a_matrixBits, a_matrixZeros, a_letterRows, a_runWords, a_letterCounts, a_groupWeights, a_groupOf, a_codeLengths, a_codes, a_codesOfLength, a_lettersByCode, a_stream, a_sampleStarts, a_sampleRanks, a_sparseHigh, a_sparseLow) (nI p) :=
  ⟨sq_v (P := fun z => vp_in z 12) (sq_div6 (by omega)) (vp_in_nI (by omega) (by decide)), sq_v (P := fun z => vp_in z 12) (sq_div6 (by omega)) (vp_in_nI (by omega) (by decide)),
    fun a' ea => h a' (fun q => by rw [ea, sq_setw _ (by omega), sq_Bset])⟩
theorem sq_xbit_treeBits {post : Int32 → Prop} {p : Nat} (hp : p < 768) (h : post (nI (sq_B a_treeBits p).toNat)) : wpX_bitAt__treeBits post (f_length, f_runCount, f_streamLength, a_letters, a_plainWords, a_treeBits, a_matrixBits, a_matrixZeros, a_letterRows, a_runWords, a_letterCounts, a_groupWeights, a_groupOf, a_codeLengths, a_codes, a_codesOfLength, a_lettersByCode, a_stream, a_sampleStarts, a_sampleRanks, a_sparseHigh, a_sparseLow) (nI p) :=
  ⟨sq_v (P := fun z => vp_in z 12) (sq_div6 (by omega)) (vp_in_nI (by omega) (by decide)), sq_v (P := post) (sq_bitof _ (by omega)) h⟩
theorem sq_xset_matrixBits {post : SX → Prop} {p : Nat} (hp : p < 768) (h : ∀ a', (∀ q, sq_B a' q = (sq_B a_matrixBits q || decide (q = p))) → post (f_length, f_runCount, f_streamLength, a_letters, a_plainWords, a_treeBits, a', a_matrixZeros, a_letterRows, a_runWords, a_letterCounts, a_groupWeights, a_groupOf, a_codeLengths, a_codes, a_codesOfLength, a_lettersByCode, a_stream, a_sampleStarts, a_sampleRanks, a_sparseHigh, a_sparseLow)) : wpX_setBit__matrixBits post (f_length, f_runCount, f_streamLength, a_letters, a_plainWords, a_treeBits, a_matrixBits, a_matrixZeros, a_letterRows, a_runWords, a_letterCounts, a_groupWeights, a_groupOf, a_codeLengths, a_codes, a_codesOfLength, a_lettersByCode, a_stream, a_sampleStarts, a_sampleRanks, a_sparseHigh, a_sparseLow) (nI p) :=
  ⟨sq_v (P := fun z => vp_in z 12) (sq_div6 (by omega)) (vp_in_nI (by omega) (by decide)), sq_v (P := fun z => vp_in z 12) (sq_div6 (by omega)) (vp_in_nI (by omega) (by decide)),
    fun a' ea => h a' (fun q => by rw [ea, sq_setw _ (by omega), sq_Bset])⟩
theorem sq_xbit_matrixBits {post : Int32 → Prop} {p : Nat} (hp : p < 768) (h : post (nI (sq_B a_matrixBits p).toNat)) : wpX_bitAt__matrixBits post (f_length, f_runCount, f_streamLength, a_letters, a_plainWords, a_treeBits, a_matrixBits, a_matrixZeros, a_letterRows, a_runWords, a_letterCounts, a_groupWeights, a_groupOf, a_codeLengths, a_codes, a_codesOfLength, a_lettersByCode, a_stream, a_sampleStarts, a_sampleRanks, a_sparseHigh, a_sparseLow) (nI p) :=
  ⟨sq_v (P := fun z => vp_in z 12) (sq_div6 (by omega)) (vp_in_nI (by omega) (by decide)), sq_v (P := post) (sq_bitof _ (by omega)) h⟩
theorem sq_xset_letterRows {post : SX → Prop} {p : Nat} (hp : p < 2048) (h : ∀ a', (∀ q, sq_B a' q = (sq_B a_letterRows q || decide (q = p))) → post (f_length, f_runCount, f_streamLength, a_letters, a_plainWords, a_treeBits, a_matrixBits, a_matrixZeros, a', a_runWords, a_letterCounts, a_groupWeights, a_groupOf, a_codeLengths, a_codes, a_codesOfLength, a_lettersByCode, a_stream, a_sampleStarts, a_sampleRanks, a_sparseHigh, a_sparseLow)) : wpX_setBit__letterRows post (f_length, f_runCount, f_streamLength, a_letters, a_plainWords, a_treeBits, a_matrixBits, a_matrixZeros, a_letterRows, a_runWords, a_letterCounts, a_groupWeights, a_groupOf, a_codeLengths, a_codes, a_codesOfLength, a_lettersByCode, a_stream, a_sampleStarts, a_sampleRanks, a_sparseHigh, a_sparseLow) (nI p) :=
  ⟨sq_v (P := fun z => vp_in z 32) (sq_div6 (by omega)) (vp_in_nI (by omega) (by decide)), sq_v (P := fun z => vp_in z 32) (sq_div6 (by omega)) (vp_in_nI (by omega) (by decide)),
    fun a' ea => h a' (fun q => by rw [ea, sq_setw _ (by omega), sq_Bset])⟩
theorem sq_xbit_letterRows {post : Int32 → Prop} {p : Nat} (hp : p < 2048) (h : post (nI (sq_B a_letterRows p).toNat)) : wpX_bitAt__letterRows post (f_length, f_runCount, f_streamLength, a_letters, a_plainWords, a_treeBits, a_matrixBits, a_matrixZeros, a_letterRows, a_runWords, a_letterCounts, a_groupWeights, a_groupOf, a_codeLengths, a_codes, a_codesOfLength, a_lettersByCode, a_stream, a_sampleStarts, a_sampleRanks, a_sparseHigh, a_sparseLow) (nI p) :=
  ⟨sq_v (P := fun z => vp_in z 32) (sq_div6 (by omega)) (vp_in_nI (by omega) (by decide)), sq_v (P := post) (sq_bitof _ (by omega)) h⟩
theorem sq_xset_stream {post : SX → Prop} {p : Nat} (hp : p < 640) (h : ∀ a', (∀ q, sq_B a' q = (sq_B a_stream q || decide (q = p))) → post (f_length, f_runCount, f_streamLength, a_letters, a_plainWords, a_treeBits, a_matrixBits, a_matrixZeros, a_letterRows, a_runWords, a_letterCounts, a_groupWeights, a_groupOf, a_codeLengths, a_codes, a_codesOfLength, a_lettersByCode, a', a_sampleStarts, a_sampleRanks, a_sparseHigh, a_sparseLow)) : wpX_setBit__stream post (f_length, f_runCount, f_streamLength, a_letters, a_plainWords, a_treeBits, a_matrixBits, a_matrixZeros, a_letterRows, a_runWords, a_letterCounts, a_groupWeights, a_groupOf, a_codeLengths, a_codes, a_codesOfLength, a_lettersByCode, a_stream, a_sampleStarts, a_sampleRanks, a_sparseHigh, a_sparseLow) (nI p) :=
  ⟨sq_v (P := fun z => vp_in z 10) (sq_div6 (by omega)) (vp_in_nI (by omega) (by decide)), sq_v (P := fun z => vp_in z 10) (sq_div6 (by omega)) (vp_in_nI (by omega) (by decide)),
    fun a' ea => h a' (fun q => by rw [ea, sq_setw _ (by omega), sq_Bset])⟩
theorem sq_xbit_stream {post : Int32 → Prop} {p : Nat} (hp : p < 640) (h : post (nI (sq_B a_stream p).toNat)) : wpX_bitAt__stream post (f_length, f_runCount, f_streamLength, a_letters, a_plainWords, a_treeBits, a_matrixBits, a_matrixZeros, a_letterRows, a_runWords, a_letterCounts, a_groupWeights, a_groupOf, a_codeLengths, a_codes, a_codesOfLength, a_lettersByCode, a_stream, a_sampleStarts, a_sampleRanks, a_sparseHigh, a_sparseLow) (nI p) :=
  ⟨sq_v (P := fun z => vp_in z 10) (sq_div6 (by omega)) (vp_in_nI (by omega) (by decide)), sq_v (P := post) (sq_bitof _ (by omega)) h⟩
theorem sq_xset_sparseHigh {post : SX → Prop} {p : Nat} (hp : p < 512) (h : ∀ a', (∀ q, sq_B a' q = (sq_B a_sparseHigh q || decide (q = p))) → post (f_length, f_runCount, f_streamLength, a_letters, a_plainWords, a_treeBits, a_matrixBits, a_matrixZeros, a_letterRows, a_runWords, a_letterCounts, a_groupWeights, a_groupOf, a_codeLengths, a_codes, a_codesOfLength, a_lettersByCode, a_stream, a_sampleStarts, a_sampleRanks, a', a_sparseLow)) : wpX_setBit__sparseHigh post (f_length, f_runCount, f_streamLength, a_letters, a_plainWords, a_treeBits, a_matrixBits, a_matrixZeros, a_letterRows, a_runWords, a_letterCounts, a_groupWeights, a_groupOf, a_codeLengths, a_codes, a_codesOfLength, a_lettersByCode, a_stream, a_sampleStarts, a_sampleRanks, a_sparseHigh, a_sparseLow) (nI p) :=
  ⟨sq_v (P := fun z => vp_in z 8) (sq_div6 (by omega)) (vp_in_nI (by omega) (by decide)), sq_v (P := fun z => vp_in z 8) (sq_div6 (by omega)) (vp_in_nI (by omega) (by decide)),
    fun a' ea => h a' (fun q => by rw [ea, sq_setw _ (by omega), sq_Bset])⟩
theorem sq_xbit_sparseHigh {post : Int32 → Prop} {p : Nat} (hp : p < 512) (h : post (nI (sq_B a_sparseHigh p).toNat)) : wpX_bitAt__sparseHigh post (f_length, f_runCount, f_streamLength, a_letters, a_plainWords, a_treeBits, a_matrixBits, a_matrixZeros, a_letterRows, a_runWords, a_letterCounts, a_groupWeights, a_groupOf, a_codeLengths, a_codes, a_codesOfLength, a_lettersByCode, a_stream, a_sampleStarts, a_sampleRanks, a_sparseHigh, a_sparseLow) (nI p) :=
  ⟨sq_v (P := fun z => vp_in z 8) (sq_div6 (by omega)) (vp_in_nI (by omega) (by decide)), sq_v (P := post) (sq_bitof _ (by omega)) h⟩
theorem sq_xob_treeBits {post : Int32 → Prop} {w i : Nat} (hw : 64 * w + i ≤ 768) (h : post (nI (sq_c (fun t => sq_B a_treeBits (64 * w + t)) i))) : wpX_onesBefore__treeBits post (f_length, f_runCount, f_streamLength, a_letters, a_plainWords, a_treeBits, a_matrixBits, a_matrixZeros, a_letterRows, a_runWords, a_letterCounts, a_groupWeights, a_groupOf, a_codeLengths, a_codes, a_codesOfLength, a_lettersByCode, a_stream, a_sampleStarts, a_sampleRanks, a_sparseHigh, a_sparseLow) (nI w) (nI i) :=
  nm_r (sq_div6 (by omega)) (loop_0 (σ := Int32) (fun n k x3 => wX_onesBefore__treeBits_11 post (nI w) (nI i) (nI (i / 64)) f_length f_runCount f_streamLength a_letters a_plainWords a_treeBits a_matrixBits a_matrixZeros a_letterRows a_runWords a_letterCounts a_groupWeights a_groupOf a_codeLengths a_codes a_codesOfLength a_lettersByCode a_stream a_sampleStarts a_sampleRanks a_sparseHigh a_sparseLow n x3 (nI k))
    (fun k x3 => x3 = nI (sq_c (fun t => sq_B a_treeBits (64 * w + t)) (64 * k))) (i / 64) 0 rfl
    (fun n x3 e => br_t (nI_le (Nat.le_refl _) (by omega)) (nm_r (sq_mod6 (by omega)) (pk_eq (i % 64) 0
      (fun z => by
        subst e
        rw [show 64 * (i / 64) = i by omega]
        exact h)
      (fun z => ⟨sq_v (P := fun z => vp_in z 12) (nI_add _ _) (vp_in_nI (by omega) (by decide)), sq_xones (nm_r (e' := nI (sq_c (fun t => sq_B a_treeBits (64 * w + t)) i)) (by
        subst e
        rw [sq_pcm _ (by omega), nI_add, nI_add, nI_clamp (by omega), ← sq_pcr _ w (i / 64) (by omega), show 64 * (i / 64) + i % 64 = i by omega]) h)⟩))))
    (fun n k x3 hk e c => br_f (nI_ge hk (by omega)) ⟨sq_v (P := fun z => vp_in z 12) (nI_add _ _) (vp_in_nI (by omega) (by decide)), sq_xones (nm_r (e' := nI (sq_c (fun t => sq_B a_treeBits (64 * w + t)) (64 * (k + 1)))) (by
        subst e
        rw [nI_add w k, nI_clamp (by omega), nI_add, ← sq_pcw, show 64 * (k + 1) = 64 * k + 64 by omega]) (nm_r (nI_1 k) (c _ rfl)))⟩))
theorem sq_xob_matrixBits {post : Int32 → Prop} {w i : Nat} (hw : 64 * w + i ≤ 768) (h : post (nI (sq_c (fun t => sq_B a_matrixBits (64 * w + t)) i))) : wpX_onesBefore__matrixBits post (f_length, f_runCount, f_streamLength, a_letters, a_plainWords, a_treeBits, a_matrixBits, a_matrixZeros, a_letterRows, a_runWords, a_letterCounts, a_groupWeights, a_groupOf, a_codeLengths, a_codes, a_codesOfLength, a_lettersByCode, a_stream, a_sampleStarts, a_sampleRanks, a_sparseHigh, a_sparseLow) (nI w) (nI i) :=
  nm_r (sq_div6 (by omega)) (loop_0 (σ := Int32) (fun n k x3 => wX_onesBefore__matrixBits_11 post (nI w) (nI i) (nI (i / 64)) f_length f_runCount f_streamLength a_letters a_plainWords a_treeBits a_matrixBits a_matrixZeros a_letterRows a_runWords a_letterCounts a_groupWeights a_groupOf a_codeLengths a_codes a_codesOfLength a_lettersByCode a_stream a_sampleStarts a_sampleRanks a_sparseHigh a_sparseLow n x3 (nI k))
    (fun k x3 => x3 = nI (sq_c (fun t => sq_B a_matrixBits (64 * w + t)) (64 * k))) (i / 64) 0 rfl
    (fun n x3 e => br_t (nI_le (Nat.le_refl _) (by omega)) (nm_r (sq_mod6 (by omega)) (pk_eq (i % 64) 0
      (fun z => by
        subst e
        rw [show 64 * (i / 64) = i by omega]
        exact h)
      (fun z => ⟨sq_v (P := fun z => vp_in z 12) (nI_add _ _) (vp_in_nI (by omega) (by decide)), sq_xones (nm_r (e' := nI (sq_c (fun t => sq_B a_matrixBits (64 * w + t)) i)) (by
        subst e
        rw [sq_pcm _ (by omega), nI_add, nI_add, nI_clamp (by omega), ← sq_pcr _ w (i / 64) (by omega), show 64 * (i / 64) + i % 64 = i by omega]) h)⟩))))
    (fun n k x3 hk e c => br_f (nI_ge hk (by omega)) ⟨sq_v (P := fun z => vp_in z 12) (nI_add _ _) (vp_in_nI (by omega) (by decide)), sq_xones (nm_r (e' := nI (sq_c (fun t => sq_B a_matrixBits (64 * w + t)) (64 * (k + 1)))) (by
        subst e
        rw [nI_add w k, nI_clamp (by omega), nI_add, ← sq_pcw, show 64 * (k + 1) = 64 * k + 64 by omega]) (nm_r (nI_1 k) (c _ rfl)))⟩))
theorem sq_xob_letterRows {post : Int32 → Prop} {w i : Nat} (hw : 64 * w + i ≤ 2048) (h : post (nI (sq_c (fun t => sq_B a_letterRows (64 * w + t)) i))) : wpX_onesBefore__letterRows post (f_length, f_runCount, f_streamLength, a_letters, a_plainWords, a_treeBits, a_matrixBits, a_matrixZeros, a_letterRows, a_runWords, a_letterCounts, a_groupWeights, a_groupOf, a_codeLengths, a_codes, a_codesOfLength, a_lettersByCode, a_stream, a_sampleStarts, a_sampleRanks, a_sparseHigh, a_sparseLow) (nI w) (nI i) :=
  nm_r (sq_div6 (by omega)) (loop_0 (σ := Int32) (fun n k x3 => wX_onesBefore__letterRows_11 post (nI w) (nI i) (nI (i / 64)) f_length f_runCount f_streamLength a_letters a_plainWords a_treeBits a_matrixBits a_matrixZeros a_letterRows a_runWords a_letterCounts a_groupWeights a_groupOf a_codeLengths a_codes a_codesOfLength a_lettersByCode a_stream a_sampleStarts a_sampleRanks a_sparseHigh a_sparseLow n x3 (nI k))
    (fun k x3 => x3 = nI (sq_c (fun t => sq_B a_letterRows (64 * w + t)) (64 * k))) (i / 64) 0 rfl
    (fun n x3 e => br_t (nI_le (Nat.le_refl _) (by omega)) (nm_r (sq_mod6 (by omega)) (pk_eq (i % 64) 0
      (fun z => by
        subst e
        rw [show 64 * (i / 64) = i by omega]
        exact h)
      (fun z => ⟨sq_v (P := fun z => vp_in z 32) (nI_add _ _) (vp_in_nI (by omega) (by decide)), sq_xones (nm_r (e' := nI (sq_c (fun t => sq_B a_letterRows (64 * w + t)) i)) (by
        subst e
        rw [sq_pcm _ (by omega), nI_add, nI_add, nI_clamp (by omega), ← sq_pcr _ w (i / 64) (by omega), show 64 * (i / 64) + i % 64 = i by omega]) h)⟩))))
    (fun n k x3 hk e c => br_f (nI_ge hk (by omega)) ⟨sq_v (P := fun z => vp_in z 32) (nI_add _ _) (vp_in_nI (by omega) (by decide)), sq_xones (nm_r (e' := nI (sq_c (fun t => sq_B a_letterRows (64 * w + t)) (64 * (k + 1)))) (by
        subst e
        rw [nI_add w k, nI_clamp (by omega), nI_add, ← sq_pcw, show 64 * (k + 1) = 64 * k + 64 by omega]) (nm_r (nI_1 k) (c _ rfl)))⟩))
theorem sq_xput_plainWords {post : SX → Prop} {p v : Nat} (hp : p < 210) (hv : v < 8) (hz : sq_F 3 21 a_plainWords p = 0) (h : ∀ a', (∀ q, sq_F 3 21 a' q = if q = p then v else sq_F 3 21 a_plainWords q) → post (f_length, f_runCount, f_streamLength, a_letters, a', a_treeBits, a_matrixBits, a_matrixZeros, a_letterRows, a_runWords, a_letterCounts, a_groupWeights, a_groupOf, a_codeLengths, a_codes, a_codesOfLength, a_lettersByCode, a_stream, a_sampleStarts, a_sampleRanks, a_sparseHigh, a_sparseLow)) : wpX_putTriple__plainWords post (f_length, f_runCount, f_streamLength, a_letters, a_plainWords, a_treeBits, a_matrixBits, a_matrixZeros, a_letterRows, a_runWords, a_letterCounts, a_groupWeights, a_groupOf, a_codeLengths, a_codes, a_codesOfLength, a_lettersByCode, a_stream, a_sampleStarts, a_sampleRanks, a_sparseHigh, a_sparseLow) (nI p) (nI v) :=
  ⟨by decide, sq_v (P := fun z => vp_in z 10) (sq_d21 (by omega)) (vp_in_nI (by omega) (by decide)), by decide, sq_v (P := fun z => vp_in z 10) (sq_d21 (by omega)) (vp_in_nI (by omega) (by decide)),
    fun a' ea => h a' (fun q => by rw [ea, sq_tripw _ (by omega) hv]; exact sq_Fput _ (by decide) (by decide) hv hz q)⟩
theorem sq_xtrip_plainWords {post : Int32 → Prop} {p : Nat} (hp : p < 210) (h : post (nI (sq_F 3 21 a_plainWords p))) : wpX_tripleAt__plainWords post (f_length, f_runCount, f_streamLength, a_letters, a_plainWords, a_treeBits, a_matrixBits, a_matrixZeros, a_letterRows, a_runWords, a_letterCounts, a_groupWeights, a_groupOf, a_codeLengths, a_codes, a_codesOfLength, a_lettersByCode, a_stream, a_sampleStarts, a_sampleRanks, a_sparseHigh, a_sparseLow) (nI p) :=
  ⟨by decide, sq_v (P := fun z => vp_in z 10) (sq_d21 (by omega)) (vp_in_nI (by omega) (by decide)), by decide, sq_v (P := post) (sq_tripg _ (by omega)) h⟩
theorem sq_xput_sparseLow {post : SX → Prop} {p v : Nat} (hp : p < 210) (hv : v < 8) (hz : sq_F 3 21 a_sparseLow p = 0) (h : ∀ a', (∀ q, sq_F 3 21 a' q = if q = p then v else sq_F 3 21 a_sparseLow q) → post (f_length, f_runCount, f_streamLength, a_letters, a_plainWords, a_treeBits, a_matrixBits, a_matrixZeros, a_letterRows, a_runWords, a_letterCounts, a_groupWeights, a_groupOf, a_codeLengths, a_codes, a_codesOfLength, a_lettersByCode, a_stream, a_sampleStarts, a_sampleRanks, a_sparseHigh, a')) : wpX_putTriple__sparseLow post (f_length, f_runCount, f_streamLength, a_letters, a_plainWords, a_treeBits, a_matrixBits, a_matrixZeros, a_letterRows, a_runWords, a_letterCounts, a_groupWeights, a_groupOf, a_codeLengths, a_codes, a_codesOfLength, a_lettersByCode, a_stream, a_sampleStarts, a_sampleRanks, a_sparseHigh, a_sparseLow) (nI p) (nI v) :=
  ⟨by decide, sq_v (P := fun z => vp_in z 10) (sq_d21 (by omega)) (vp_in_nI (by omega) (by decide)), by decide, sq_v (P := fun z => vp_in z 10) (sq_d21 (by omega)) (vp_in_nI (by omega) (by decide)),
    fun a' ea => h a' (fun q => by rw [ea, sq_tripw _ (by omega) hv]; exact sq_Fput _ (by decide) (by decide) hv hz q)⟩
theorem sq_xtrip_sparseLow {post : Int32 → Prop} {p : Nat} (hp : p < 210) (h : post (nI (sq_F 3 21 a_sparseLow p))) : wpX_tripleAt__sparseLow post (f_length, f_runCount, f_streamLength, a_letters, a_plainWords, a_treeBits, a_matrixBits, a_matrixZeros, a_letterRows, a_runWords, a_letterCounts, a_groupWeights, a_groupOf, a_codeLengths, a_codes, a_codesOfLength, a_lettersByCode, a_stream, a_sampleStarts, a_sampleRanks, a_sparseHigh, a_sparseLow) (nI p) :=
  ⟨by decide, sq_v (P := fun z => vp_in z 10) (sq_d21 (by omega)) (vp_in_nI (by omega) (by decide)), by decide, sq_v (P := post) (sq_tripg _ (by omega)) h⟩
end
end
section
-- Part 13: reading the tree and the matrix (written by wip/whole/gen13.py)
theorem sq_ow (a : Nat → Int64) (l s : Nat) : sq_c (fun t => sq_B a (64 * (l * 4) + t)) s = sq_o (sq_B a) l s := sq_ccg s (fun t _ => congrArg (sq_B a) (by omega))
theorem sq_ole (R : Nat → Bool) (l s : Nat) : sq_o R l s ≤ s := sq_cle _ s
/-- a step of treeRank and treeLetter for the letter v -/
theorem sq_tnext {L : Nat → Nat} {n l : Nat} {R : Nat → Bool} (hl : l < 3) (H : sq_Row L n l (sq_st L n l) R) (v : Nat) {i : Nat} (hi : i ≤ n) :
    ∃ a e c o1 o2 o3 a' e' c' : Nat, sq_st L n l (v / 2 ^ (3 - l)) = a ∧ sq_st L n l (v / 2 ^ (3 - l)) + sq_p L l (v / 2 ^ (3 - l)) n = e ∧ sq_p L l (v / 2 ^ (3 - l)) i = c ∧
    sq_o R l a = o1 ∧ sq_o R l (a + c) = o2 ∧ sq_o R l e = o3 ∧
    sq_st L n (l + 1) (v / 2 ^ (3 - (l + 1))) = a' ∧ sq_st L n (l + 1) (v / 2 ^ (3 - (l + 1))) + sq_p L (l + 1) (v / 2 ^ (3 - (l + 1))) n = e' ∧ sq_p L (l + 1) (v / 2 ^ (3 - (l + 1))) i = c' ∧
    o1 ≤ o2 ∧ o1 ≤ o3 ∧ o3 - o1 ≤ e ∧ o2 - o1 ≤ c ∧ e ≤ n ∧ a + c ≤ e ∧
    (v / 2 ^ (2 - l) % 2 = 1 → a' = e - (o3 - o1) ∧ e' = e ∧ c' = o2 - o1) ∧ (¬ v / 2 ^ (2 - l) % 2 = 1 → a' = a ∧ e' = e - (o3 - o1) ∧ c' = c - (o2 - o1)) := by
  have q := sq_pp v l hl
  have t := sq_tstep hl H (v / 2 ^ (3 - l)) hi
  have tn := sq_tstep hl H (v / 2 ^ (3 - l)) (Nat.le_refl n)
  have s2 := sq_st2 L n hl (v / 2 ^ (3 - l))
  have s3 := sq_st3 L n hl (v / 2 ^ (3 - l))
  have d := sq_p2 L hl (v / 2 ^ (3 - l)) n
  have di := sq_p2 L hl (v / 2 ^ (3 - l)) i
  have m := sq_pmono L l (v / 2 ^ (3 - l)) hi
  have z := sq_sten L n l (v / 2 ^ (3 - l))
  refine ⟨_, _, _, _, _, _, _, _, _, rfl, rfl, rfl, rfl, rfl, rfl, rfl, rfl, rfl, by omega, by omega, by omega, by omega, z, by omega, fun h => ?_, fun h => ?_⟩
  · rw [show v / 2 ^ (3 - (l + 1)) = 2 * (v / 2 ^ (3 - l)) + 1 by omega]
    refine ⟨?_, ?_, ?_⟩ <;> omega
  · rw [show v / 2 ^ (3 - (l + 1)) = 2 * (v / 2 ^ (3 - l)) by omega]
    refine ⟨?_, ?_, ?_⟩ <;> omega
/-- a step of matrixRank and matrixLetter for the letter v; in the last row only the difference counts -/
theorem sq_mnext {L : Nat → Nat} {n l : Nat} {R : Nat → Bool} (hL : ∀ j, L j < 8) (hl : l < 3) (H : sq_Row L n l (sq_mst L n l) R) {v : Nat} (hv : v < 8) {i a : Nat} (hi : i ≤ n) (ha : a = sq_mst L n l (v / 2 ^ (3 - l))) :
    ∃ c o1 o2 z a' c' : Nat, sq_p L l (v / 2 ^ (3 - l)) i = c ∧ sq_o R l a = o1 ∧ sq_o R l (a + c) = o2 ∧ n - sq_o R l n = z ∧ sq_p L (l + 1) (v / 2 ^ (3 - (l + 1))) i = c' ∧
    (l + 1 < 3 → a' = sq_mst L n (l + 1) (v / 2 ^ (3 - (l + 1)))) ∧ o1 ≤ a ∧ o2 ≤ a + c ∧ a + c ≤ n ∧ z ≤ n ∧
    (v / 2 ^ (2 - l) % 2 = 1 → a' = z + o1 ∧ a' + c' = z + o2) ∧ (¬ v / 2 ^ (2 - l) % 2 = 1 → a' = a - o1 ∧ a' + c' = a + c - o2) := by
  have q := sq_pp v l hl
  have hp : v / 2 ^ (3 - l) < 2 ^ l := by
    have : ∀ l, l < 3 → ∀ v, v < 8 → v / 2 ^ (3 - l) < 2 ^ l := by decide +kernel
    exact this l hl v hv
  have le := sq_mle hL n hl hp
  have mo := sq_pmono L l (v / 2 ^ (3 - l)) hi
  have b1 := sq_ole R l a
  have b2 := sq_ole R l (a + sq_p L l (v / 2 ^ (3 - l)) i)
  by_cases h2 : l < 2
  · have t := sq_mstep h2 H hp hi
    have t0 := sq_mstep h2 H hp (Nat.zero_le n)
    have e0 : sq_p L l (v / 2 ^ (3 - l)) 0 = 0 := rfl
    have e1 : ∀ x, sq_p L (l + 1) x 0 = 0 := fun _ => rfl
    rw [e0, Nat.add_zero, e1, e1, Nat.add_zero, Nat.add_zero, ← ha] at t0
    rw [← ha] at t le
    have zz := sq_mzeros hL h2 H
    rw [← zz] at t t0
    refine ⟨_, _, _, _, sq_mst L n (l + 1) (v / 2 ^ (3 - (l + 1))), _, rfl, rfl, rfl, rfl, rfl, fun _ => rfl, b1, b2, by omega, Nat.sub_le _ _, fun h => ?_, fun h => ?_⟩
    · rw [show v / 2 ^ (3 - (l + 1)) = 2 * (v / 2 ^ (3 - l)) + 1 by omega]
      exact ⟨t0.2.2.symm, t.2.2.symm⟩
    · rw [show v / 2 ^ (3 - (l + 1)) = 2 * (v / 2 ^ (3 - l)) by omega]
      exact ⟨t0.1.symm, t.1.symm⟩
  · have h2' : l = 2 := by omega
    subst h2'
    have t := sq_mlast H (v / 2 ^ (3 - 2)) hi
    rw [← ha] at t le
    have t1 : sq_o R 2 (a + sq_p L 2 (v / 2 ^ (3 - 2)) i) = sq_o R 2 a + sq_p L 3 (2 * (v / 2 ^ (3 - 2)) + 1) i := t.1
    have t2 : sq_p L 2 (v / 2 ^ (3 - 2)) i = sq_p L 3 (2 * (v / 2 ^ (3 - 2))) i + sq_p L 3 (2 * (v / 2 ^ (3 - 2)) + 1) i := t.2
    by_cases h : v / 2 ^ (2 - 2) % 2 = 1
    · refine ⟨_, _, _, _, (n - sq_o R 2 n) + sq_o R 2 a, _, rfl, rfl, rfl, rfl, rfl, fun z => by omega, b1, b2, by omega, Nat.sub_le _ _, fun _ => ⟨rfl, ?_⟩, fun z => absurd h z⟩
      rw [show v / 2 ^ (3 - (2 + 1)) = 2 * (v / 2 ^ (3 - 2)) + 1 by omega]
      show _ + sq_p L 3 (2 * (v / 2 ^ (3 - 2)) + 1) i = _
      omega
    · refine ⟨_, _, _, _, a - sq_o R 2 a, _, rfl, rfl, rfl, rfl, rfl, fun z => by omega, b1, b2, by omega, Nat.sub_le _ _, fun z => absurd z h, fun _ => ⟨rfl, ?_⟩⟩
      rw [show v / 2 ^ (3 - (2 + 1)) = 2 * (v / 2 ^ (3 - 2)) by omega]
      show _ + sq_p L 3 (2 * (v / 2 ^ (3 - 2))) i = _
      omega
theorem sq_v0 {v : Nat} (hv : v < 8) : v / 2 ^ (3 - 0) = 0 := by
  show v / 8 = 0
  omega
theorem sq_v3 (v : Nat) : v / 2 ^ (3 - 3) = v := by
  show v / 1 = v
  omega
theorem sq_b01 {p : Prop} {d : Decidable p} : (p ∧ nI (@decide p d).toNat = nI 1) ∨ (¬ p ∧ nI (@decide p d).toNat = nI 0) := by
  by_cases h : p
  · left; rw [decide_eq_true h]; exact ⟨h, rfl⟩
  · right; rw [decide_eq_false h]; exact ⟨h, rfl⟩
section
variable {f_length f_runCount f_streamLength : Int32} {a_letters : Nat → Int32} {a_plainWords a_treeBits a_matrixBits : Nat → Int64} {a_matrixZeros : Nat → Int32} {a_letterRows a_runWords : Nat → Int64} {a_letterCounts a_groupWeights a_groupOf a_codeLengths a_codes a_codesOfLength a_lettersByCode : Nat → Int32} {a_stream : Nat → Int64} {a_sampleStarts a_sampleRanks : Nat → Int32} {a_sparseHigh a_sparseLow : Nat → Int64}
theorem sq_xrow_treeBits {post : Int32 → Prop} {l s : Nat} {x : Int32} (hx : x = nI s) (hw : 256 * l + s ≤ 768) (h : post (nI (sq_o (sq_B a_treeBits) l s))) : wpX_onesBefore__treeBits post (f_length, f_runCount, f_streamLength, a_letters, a_plainWords, a_treeBits, a_matrixBits, a_matrixZeros, a_letterRows, a_runWords, a_letterCounts, a_groupWeights, a_groupOf, a_codeLengths, a_codes, a_codesOfLength, a_lettersByCode, a_stream, a_sampleStarts, a_sampleRanks, a_sparseHigh, a_sparseLow) (nI l * 4) x := by
  subst hx
  rw [show nI l * 4 = nI (l * 4) from pk_mul l 4]
  exact sq_xob_treeBits (by omega) (by rw [sq_ow]; exact h)
theorem sq_xrow_matrixBits {post : Int32 → Prop} {l s : Nat} {x : Int32} (hx : x = nI s) (hw : 256 * l + s ≤ 768) (h : post (nI (sq_o (sq_B a_matrixBits) l s))) : wpX_onesBefore__matrixBits post (f_length, f_runCount, f_streamLength, a_letters, a_plainWords, a_treeBits, a_matrixBits, a_matrixZeros, a_letterRows, a_runWords, a_letterCounts, a_groupWeights, a_groupOf, a_codeLengths, a_codes, a_codesOfLength, a_lettersByCode, a_stream, a_sampleStarts, a_sampleRanks, a_sparseHigh, a_sparseLow) (nI l * 4) x := by
  subst hx
  rw [show nI l * 4 = nI (l * 4) from pk_mul l 4]
  exact sq_xob_matrixBits (by omega) (by rw [sq_ow]; exact h)
theorem sq_xrow_letterRows {post : Int32 → Prop} {l s : Nat} {x : Int32} (hx : x = nI s) (hw : 256 * l + s ≤ 2048) (h : post (nI (sq_o (sq_B a_letterRows) l s))) : wpX_onesBefore__letterRows post (f_length, f_runCount, f_streamLength, a_letters, a_plainWords, a_treeBits, a_matrixBits, a_matrixZeros, a_letterRows, a_runWords, a_letterCounts, a_groupWeights, a_groupOf, a_codeLengths, a_codes, a_codesOfLength, a_lettersByCode, a_stream, a_sampleStarts, a_sampleRanks, a_sparseHigh, a_sparseLow) (nI l * 4) x := by
  subst hx
  rw [show nI l * 4 = nI (l * 4) from pk_mul l 4]
  exact sq_xob_letterRows (by omega) (by rw [sq_ow]; exact h)
theorem sq_xtreeRank {post : Int32 → Prop} {L : Nat → Nat} {n v i : Nat} (hL : ∀ j, L j < 8) (hn : n ≤ 200) (H : sq_P1 L n a_treeBits) (hv : v < 8) (hi : i ≤ n) (h : post (nI (sq_rk L v i))) : wpX_treeRank post ((nI n), f_runCount, f_streamLength, a_letters, a_plainWords, a_treeBits, a_matrixBits, a_matrixZeros, a_letterRows, a_runWords, a_letterCounts, a_groupWeights, a_groupOf, a_codeLengths, a_codes, a_codesOfLength, a_lettersByCode, a_stream, a_sampleStarts, a_sampleRanks, a_sparseHigh, a_sparseLow) (nI v) (nI i) :=
  loop_0 (σ := Int32 × Int32 × Int32) (fun n' l s => wX_treeRank_14 post (nI v) (nI n) f_runCount f_streamLength a_letters a_plainWords a_treeBits a_matrixBits a_matrixZeros a_letterRows a_runWords a_letterCounts a_groupWeights a_groupOf a_codeLengths a_codes a_codesOfLength a_lettersByCode a_stream a_sampleStarts a_sampleRanks a_sparseHigh a_sparseLow n' s.1 s.2.1 s.2.2 (nI l))
    (fun l s => s.1 = nI (sq_st L n l (v / 2 ^ (3 - l))) ∧ s.2.1 = nI (sq_st L n l (v / 2 ^ (3 - l)) + sq_p L l (v / 2 ^ (3 - l)) n) ∧ s.2.2 = nI (sq_p L l (v / 2 ^ (3 - l)) i)) 3 (0, nI n, nI i)
    (by
      rw [sq_v0 hv, sq_p0 hL, sq_p0 hL]
      exact ⟨rfl, congrArg nI (Nat.zero_add n).symm, rfl⟩)
    (fun n' s e => br_t (nI_le (Nat.le_refl 3) (by decide)) (sq_v (P := post) e.2.2 (by rw [sq_v3, sq_p3]; exact h)))
    (fun n' l s hl e k => by
      obtain ⟨s1, s2, s3⟩ := s
      obtain ⟨a, e', c, o1, o2, o3, a1, e1, c1, q1, q2, q3, q4, q5, q6, q7, q8, q9, k1, k2, k3, k4, k5, k6, kt, kf⟩ := sq_tnext hl (H l hl) v hi
      obtain ⟨r1, r2, r3⟩ := e
      rw [q1] at r1
      rw [q2] at r2
      rw [q3] at r3
      have r1' : s1 = nI a := r1
      have r2' : s2 = nI e' := r2
      have r3' : s3 = nI c := r3
      subst r1' r2' r3'
      refine br_f (nI_ge (b := 3) hl (by decide)) (nm_e (sq_xrow_treeBits rfl (by omega) ?_))
      rw [q4]
      refine sq_xrow_treeBits (nI_add a c) (by omega) ?_
      rw [q5]
      refine nm_r (pk_sub k1) (sq_xrow_treeBits rfl (by omega) ?_)
      rw [q6]
      refine nm_r (e' := nI (e' - (o3 - o1))) (by rw [pk_sub k2, pk_sub k3]) ?_
      show (_ → _) ∧ (_ → _)
      rw [sq_lbit v hv l hl]
      refine pk_eq (v / 2 ^ (2 - l) % 2) 1 (fun hb => ?_) (fun hb => ?_)
      · obtain ⟨z1, z2, z3⟩ := kt hb
        refine nm_r (nI_1 l) (k (nI (e' - (o3 - o1)), nI e', nI (o2 - o1)) ⟨?_, ?_, ?_⟩)
        · show nI (e' - (o3 - o1)) = _; rw [q7, z1]
        · show nI e' = _; rw [q8, z2]
        · show nI (o2 - o1) = _; rw [q9, z3]
      · obtain ⟨z1, z2, z3⟩ := kf hb
        refine nm_r (pk_sub k4) (nm_r (nI_1 l) (k (nI a, nI (e' - (o3 - o1)), nI (c - (o2 - o1))) ⟨?_, ?_, ?_⟩))
        · show nI a = _; rw [q7, z1]
        · show nI (e' - (o3 - o1)) = _; rw [q8, z2]
        · show nI (c - (o2 - o1)) = _; rw [q9, z3])
theorem sq_xtreeLetter {post : Int32 → Prop} {L : Nat → Nat} {n i : Nat} (hL : ∀ j, L j < 8) (hn : n ≤ 200) (H : sq_P1 L n a_treeBits) (hi : i < n) (h : post (nI (L i))) : wpX_treeLetter post ((nI n), f_runCount, f_streamLength, a_letters, a_plainWords, a_treeBits, a_matrixBits, a_matrixZeros, a_letterRows, a_runWords, a_letterCounts, a_groupWeights, a_groupOf, a_codeLengths, a_codes, a_codesOfLength, a_lettersByCode, a_stream, a_sampleStarts, a_sampleRanks, a_sparseHigh, a_sparseLow) (nI i) :=
  loop_0 (σ := Int32 × Int32 × Int32 × Int32) (fun n' l s => wX_treeLetter_16 post (nI n) f_runCount f_streamLength a_letters a_plainWords a_treeBits a_matrixBits a_matrixZeros a_letterRows a_runWords a_letterCounts a_groupWeights a_groupOf a_codeLengths a_codes a_codesOfLength a_lettersByCode a_stream a_sampleStarts a_sampleRanks a_sparseHigh a_sparseLow n' s.2.2.2 s.1 s.2.1 s.2.2.1 (nI l))
    (fun l s => s.1 = nI (sq_st L n l (L i / 2 ^ (3 - l))) ∧ s.2.1 = nI (sq_st L n l (L i / 2 ^ (3 - l)) + sq_p L l (L i / 2 ^ (3 - l)) n) ∧ s.2.2.1 = nI (sq_p L l (L i / 2 ^ (3 - l)) i) ∧ s.2.2.2 = nI (L i / 2 ^ (3 - l))) 3 (0, nI n, nI i, 0)
    (by
      rw [sq_v0 (hL i), sq_p0 hL, sq_p0 hL]
      exact ⟨rfl, congrArg nI (Nat.zero_add n).symm, rfl, rfl⟩)
    (fun n' s e => br_t (nI_le (Nat.le_refl 3) (by decide)) (sq_v (P := post) e.2.2.2 (by rw [sq_v3]; exact h)))
    (fun n' l s hl e k => by
      obtain ⟨s1, s2, s3, s4⟩ := s
      obtain ⟨a, e', c, o1, o2, o3, a1, e1, c1, q1, q2, q3, q4, q5, q6, q7, q8, q9, k1, k2, k3, k4, k5, k6, kt, kf⟩ := sq_tnext hl (H l hl) (L i) (Nat.le_of_lt hi)
      obtain ⟨r1, r2, r3, r4⟩ := e
      have hb := H l hl i hi
      rw [q1, q3] at hb
      rw [q1] at r1
      rw [q2] at r2
      rw [q3] at r3
      have r1' : s1 = nI a := r1
      have r2' : s2 = nI e' := r2
      have r3' : s3 = nI c := r3
      have r4' : s4 = nI (L i / 2 ^ (3 - l)) := r4
      subst r1' r2' r3' r4'
      have g : (nI l * 256 + nI a) + nI c = nI (256 * l + (a + c)) := by
        rw [show nI l * 256 = nI (l * 256) from pk_mul l 256, nI_add, nI_add]
        exact congrArg nI (by omega)
      refine br_f (nI_ge (b := 3) hl (by decide)) (nm_e (sq_v (P := fun z => wpX_bitAt__treeBits _ ((nI n), f_runCount, f_streamLength, a_letters, a_plainWords, a_treeBits, a_matrixBits, a_matrixZeros, a_letterRows, a_runWords, a_letterCounts, a_groupWeights, a_groupOf, a_codeLengths, a_codes, a_codesOfLength, a_lettersByCode, a_stream, a_sampleStarts, a_sampleRanks, a_sparseHigh, a_sparseLow) z) g (sq_xbit_treeBits (by omega) ?_)))
      rw [hb]
      refine sq_xrow_treeBits rfl (by omega) ?_
      rw [q4]
      refine sq_xrow_treeBits (nI_add a c) (by omega) ?_
      rw [q5]
      refine nm_r (pk_sub k1) (sq_xrow_treeBits rfl (by omega) ?_)
      rw [q6]
      refine nm_r (e' := nI (e' - (o3 - o1))) (by rw [pk_sub k2, pk_sub k3]) ?_
      have q := sq_pp (L i) l hl
      by_cases hd : L i / 2 ^ (2 - l) % 2 = 1
      · obtain ⟨z1, z2, z3⟩ := kt hd
        rw [decide_eq_true hd]
        refine br_t rfl (nm_r (e' := nI (L i / 2 ^ (3 - (l + 1)))) ?_ (nm_r (nI_1 l) (k (_, _, _, _) ⟨?_, ?_, ?_, rfl⟩)))
        · show nI (L i / 2 ^ (3 - l)) * nI 2 + nI 1 = _
          rw [pk_mul, nI_add]; exact congrArg nI (by omega)
        · show nI (e' - (o3 - o1)) = _; rw [q7, z1]
        · show nI e' = _; rw [q8, z2]
        · show nI (o2 - o1) = _; rw [q9, z3]
      · obtain ⟨z1, z2, z3⟩ := kf hd
        rw [decide_eq_false hd]
        refine br_f (by decide) (nm_r (pk_sub k4) (nm_r (e' := nI (L i / 2 ^ (3 - (l + 1)))) ?_ (nm_r (nI_1 l) (k (_, _, _, _) ⟨?_, ?_, ?_, rfl⟩))))
        · show nI (L i / 2 ^ (3 - l)) * nI 2 + nI 0 = _
          rw [pk_mul, nI_add]; exact congrArg nI (by omega)
        · show nI a = _; rw [q7, z1]
        · show nI (e' - (o3 - o1)) = _; rw [q8, z2]
        · show nI (c - (o2 - o1)) = _; rw [q9, z3])
theorem sq_xmatrixRank {post : Int32 → Prop} {L : Nat → Nat} {n v i : Nat} (hL : ∀ j, L j < 8) (hn : n ≤ 200) (H : sq_P2 L n a_matrixBits a_matrixZeros) (hv : v < 8) (hi : i ≤ n) (h : post (nI (sq_rk L v i))) : wpX_matrixRank post ((nI n), f_runCount, f_streamLength, a_letters, a_plainWords, a_treeBits, a_matrixBits, a_matrixZeros, a_letterRows, a_runWords, a_letterCounts, a_groupWeights, a_groupOf, a_codeLengths, a_codes, a_codesOfLength, a_lettersByCode, a_stream, a_sampleStarts, a_sampleRanks, a_sparseHigh, a_sparseLow) (nI v) (nI i) :=
  loop_0 (σ := Int32 × Int32) (fun n' l s => wX_matrixRank_8 post (nI v) (nI n) f_runCount f_streamLength a_letters a_plainWords a_treeBits a_matrixBits a_matrixZeros a_letterRows a_runWords a_letterCounts a_groupWeights a_groupOf a_codeLengths a_codes a_codesOfLength a_lettersByCode a_stream a_sampleStarts a_sampleRanks a_sparseHigh a_sparseLow n' s.1 s.2 (nI l))
    (fun l s => ∃ a, (l < 3 → a = sq_mst L n l (v / 2 ^ (3 - l))) ∧ s.1 = nI a ∧ s.2 = nI (a + sq_p L l (v / 2 ^ (3 - l)) i)) 3 (0, nI i)
    (by
      rw [sq_v0 hv, sq_p0 hL]
      exact ⟨0, fun _ => rfl, rfl, congrArg nI (Nat.zero_add i).symm⟩)
    (fun n' s e => by
      obtain ⟨a, _, e1, e2⟩ := e
      refine br_t (nI_le (Nat.le_refl 3) (by decide)) (sq_v (P := post) (?_ : s.2 - s.1 = nI (sq_rk L v i)) h)
      rw [e1, e2, pk_sub (Nat.le_add_right _ _), Nat.add_sub_cancel_left, sq_v3, sq_p3]
      rfl)
    (fun n' l s hl e k => by
      obtain ⟨s1, s2⟩ := s
      obtain ⟨a, ha, r1, r2⟩ := e
      obtain ⟨c, o1, o2, z, a', c', q1, q2, q3, q4, q5, q6, b1, b2, b3, b4, kt, kf⟩ := sq_mnext hL hl (H l hl).1 hv hi (ha hl)
      have hz := (H l hl).2
      rw [q4] at hz
      rw [q1] at r2
      have r1' : s1 = nI a := r1
      have r2' : s2 = nI (a + c) := r2
      subst r1' r2'
      refine br_f (nI_ge (b := 3) hl (by decide)) (sq_xrow_matrixBits rfl (by omega) ?_)
      rw [q2]
      refine sq_xrow_matrixBits rfl (by omega) ?_
      rw [q3]
      show (_ → _) ∧ (_ → _)
      rw [sq_lbit v hv l hl]
      have hin : vp_in (nI l) 3 := vp_in_nI hl (by decide)
      have hc : (nI l).toNatClampNeg = l := nI_clamp (by omega)
      refine pk_eq (v / 2 ^ (2 - l) % 2) 1 (fun hb => ?_) (fun hb => ?_)
      · obtain ⟨z1, z2⟩ := kt hb
        refine ⟨hin, nm_r (e' := nI a') (by rw [hc, hz, nI_add, z1]) ⟨hin, nm_r (e' := nI (a' + c')) (by rw [hc, hz, nI_add, z2]) (nm_r (nI_1 l) (k (_, _) ⟨a', q6, rfl, ?_⟩))⟩⟩
        show nI (a' + c') = _; rw [q5]
      · obtain ⟨z1, z2⟩ := kf hb
        refine nm_r (e' := nI a') (by rw [pk_sub b1, z1]) (nm_r (e' := nI (a' + c')) (by rw [pk_sub b2, z2]) (nm_r (nI_1 l) (k (_, _) ⟨a', q6, rfl, ?_⟩)))
        show nI (a' + c') = _; rw [q5])
theorem sq_xmatrixLetter {post : Int32 → Prop} {L : Nat → Nat} {n i : Nat} (hL : ∀ j, L j < 8) (hn : n ≤ 200) (H : sq_P2 L n a_matrixBits a_matrixZeros) (hi : i < n) (h : post (nI (L i))) : wpX_matrixLetter post ((nI n), f_runCount, f_streamLength, a_letters, a_plainWords, a_treeBits, a_matrixBits, a_matrixZeros, a_letterRows, a_runWords, a_letterCounts, a_groupWeights, a_groupOf, a_codeLengths, a_codes, a_codesOfLength, a_lettersByCode, a_stream, a_sampleStarts, a_sampleRanks, a_sparseHigh, a_sparseLow) (nI i) :=
  loop_0 (σ := Int32 × Int32) (fun n' l s => wX_matrixLetter_7 post (nI n) f_runCount f_streamLength a_letters a_plainWords a_treeBits a_matrixBits a_matrixZeros a_letterRows a_runWords a_letterCounts a_groupWeights a_groupOf a_codeLengths a_codes a_codesOfLength a_lettersByCode a_stream a_sampleStarts a_sampleRanks a_sparseHigh a_sparseLow n' s.1 s.2 (nI l))
    (fun l s => ∃ a, (l < 3 → a = sq_mst L n l (L i / 2 ^ (3 - l))) ∧ s.1 = nI (L i / 2 ^ (3 - l)) ∧ s.2 = nI (a + sq_p L l (L i / 2 ^ (3 - l)) i)) 3 (0, nI i)
    (by
      rw [sq_v0 (hL i), sq_p0 hL]
      exact ⟨0, fun _ => rfl, rfl, congrArg nI (Nat.zero_add i).symm⟩)
    (fun n' s e => by
      obtain ⟨a, _, e1, e2⟩ := e
      exact br_t (nI_le (Nat.le_refl 3) (by decide)) (sq_v (P := post) e1 (by rw [sq_v3]; exact h)))
    (fun n' l s hl e k => by
      obtain ⟨s1, s2⟩ := s
      obtain ⟨a, ha, r1, r2⟩ := e
      obtain ⟨c, o1, o2, z, a', c', q1, q2, q3, q4, q5, q6, b1, b2, b3, b4, kt, kf⟩ := sq_mnext hL hl (H l hl).1 (hL i) (Nat.le_of_lt hi) (ha hl)
      have hz := (H l hl).2
      have hb := (H l hl).1 i hi
      rw [q4] at hz
      rw [← ha hl, q1] at hb
      rw [q1] at r2
      have r1' : s1 = nI (L i / 2 ^ (3 - l)) := r1
      have r2' : s2 = nI (a + c) := r2
      subst r1' r2'
      have g : nI l * 256 + nI (a + c) = nI (256 * l + (a + c)) := by
        rw [show nI l * 256 = nI (l * 256) from pk_mul l 256, nI_add]
        exact congrArg nI (by omega)
      refine br_f (nI_ge (b := 3) hl (by decide)) (sq_v (P := fun z => wpX_bitAt__matrixBits _ ((nI n), f_runCount, f_streamLength, a_letters, a_plainWords, a_treeBits, a_matrixBits, a_matrixZeros, a_letterRows, a_runWords, a_letterCounts, a_groupWeights, a_groupOf, a_codeLengths, a_codes, a_codesOfLength, a_lettersByCode, a_stream, a_sampleStarts, a_sampleRanks, a_sparseHigh, a_sparseLow) z) g (sq_xbit_matrixBits (by omega) ?_))
      rw [hb]
      refine sq_xrow_matrixBits rfl (by omega) ?_
      rw [q3]
      have q := sq_pp (L i) l hl
      have hin : vp_in (nI l) 3 := vp_in_nI hl (by decide)
      have hc : (nI l).toNatClampNeg = l := nI_clamp (by omega)
      by_cases hd : L i / 2 ^ (2 - l) % 2 = 1
      · obtain ⟨z1, z2⟩ := kt hd
        rw [decide_eq_true hd]
        refine br_t rfl ⟨hin, nm_r (e' := nI (L i / 2 ^ (3 - (l + 1)))) ?_ (nm_r (nI_1 l) (k (_, _) ⟨a', q6, rfl, ?_⟩))⟩
        · show nI (L i / 2 ^ (3 - l)) * nI 2 + nI 1 = _
          rw [pk_mul, nI_add]; exact congrArg nI (by omega)
        · show a_matrixZeros (nI l).toNatClampNeg + nI o2 = _
          rw [hc, hz, nI_add, q5, z2]
      · obtain ⟨z1, z2⟩ := kf hd
        rw [decide_eq_false hd]
        refine br_f (by decide) (nm_r (e' := nI (L i / 2 ^ (3 - (l + 1)))) ?_ (nm_r (nI_1 l) (k (_, _) ⟨a', q6, rfl, ?_⟩)))
        · show nI (L i / 2 ^ (3 - l)) * nI 2 + nI 0 = _
          rw [pk_mul, nI_add]; exact congrArg nI (by omega)
        · show nI (a + c) - nI o2 = _
          rw [pk_sub b2, q5, z2])
end
end
section
-- Part 14: reading plain words, rows, runs (written by wip/whole/gen14.py)
theorem sq_d5 {p : Nat} (hp : p < 2 ^ 31) : nI p / 5 = nI (p / 5) := pk_div (d := 5) hp (by decide) (by decide)
theorem sq_r5 {p : Nat} (hp : p < 2 ^ 31) : (nI p - nI p / 5 * 5) * 11 = nI (11 * (p % 5)) := by
  have e : nI p - nI p / 5 * 5 = nI (p % 5) := pk_rem (d := 5) hp (by decide) (by decide)
  rw [e, Nat.mul_comm]
  exact pk_mul (p % 5) 11
theorem sq_f256 (a : Nat → Int64) (k : Nat) : uN (a (k / 5)) / 2 ^ (11 * (k % 5)) % 2 ^ 8 = sq_F 11 5 a k % 256 := by
  unfold sq_F
  generalize uN (a (k / 5)) / 2 ^ (11 * (k % 5)) = y
  omega
theorem sq_f2568 (a : Nat → Int64) (k : Nat) : uN (a (k / 5)) / 2 ^ (11 * (k % 5) + 8) % 2 ^ 3 = sq_F 11 5 a k / 256 % 8 := by
  unfold sq_F
  rw [Nat.pow_add, ← Nat.div_div_eq_div_mul]
  generalize uN (a (k / 5)) / 2 ^ (11 * (k % 5)) = y
  omega
theorem sq_RIst {L : Nat → Nat} {a : Nat → Int64} {r s : Nat} {st : Nat → Nat} (H : sq_RI L a r s st) {j : Nat} : ∀ k, k ≤ r → j ≤ k → st j ≤ st k := by
  intro k
  induction k with
  | zero => intro _ h; rw [show j = 0 by omega]; exact Nat.le_refl _
  | succ k ih =>
    intro hk h
    by_cases e : j = k + 1
    · rw [e]; exact Nat.le_refl _
    · have a := ih (by omega) (by omega)
      have b := (H.2.2 k (by omega)).1
      omega
theorem sq_RIfind {L : Nat → Nat} {a : Nat → Int64} {r s i : Nat} {st : Nat → Nat} (H : sq_RI L a r s st) : ∀ k, k ≤ r → i < st k → ∃ j, j < k ∧ st j ≤ i ∧ i < st (j + 1) := by
  intro k
  induction k with
  | zero => intro _ h; rw [H.1] at h; omega
  | succ k ih =>
    intro hk h
    by_cases e : st k ≤ i
    · exact ⟨k, by omega, e, h⟩
    · obtain ⟨j, a, b, c⟩ := ih (by omega) (by omega)
      exact ⟨j, by omega, b, c⟩
section
variable {f_length f_runCount f_streamLength : Int32} {a_letters : Nat → Int32} {a_plainWords a_treeBits a_matrixBits : Nat → Int64} {a_matrixZeros : Nat → Int32} {a_letterRows a_runWords : Nat → Int64} {a_letterCounts a_groupWeights a_groupOf a_codeLengths a_codes a_codesOfLength a_lettersByCode : Nat → Int32} {a_stream : Nat → Int64} {a_sampleStarts a_sampleRanks : Nat → Int32} {a_sparseHigh a_sparseLow : Nat → Int64}
theorem sq_xplainRank {post : Int32 → Prop} {L : Nat → Nat} {n v i : Nat} (hn : n ≤ 200) (H : sq_P0 L n a_plainWords) (hv : v < 8) (hi : i ≤ n) (h : post (nI (sq_rk L v i))) : wpX_plainRank post ((nI n), f_runCount, f_streamLength, a_letters, a_plainWords, a_treeBits, a_matrixBits, a_matrixZeros, a_letterRows, a_runWords, a_letterCounts, a_groupWeights, a_groupOf, a_codeLengths, a_codes, a_codesOfLength, a_lettersByCode, a_stream, a_sampleStarts, a_sampleRanks, a_sparseHigh, a_sparseLow) (nI v) (nI i) :=
  loop_0 (σ := Int32) (fun n' w x3 => wX_plainRank_5 post (nI v) (nI i) (nI n) f_runCount f_streamLength a_letters a_plainWords a_treeBits a_matrixBits a_matrixZeros a_letterRows a_runWords a_letterCounts a_groupWeights a_groupOf a_codeLengths a_codes a_codesOfLength a_lettersByCode a_stream a_sampleStarts a_sampleRanks a_sparseHigh a_sparseLow n' x3 (nI w))
    (fun w x3 => x3 = nI (sq_rk L v (min (21 * w) i))) ((i + 20) / 21) 0 (by rw [Nat.mul_zero, Nat.zero_min]; rfl)
    (fun n' x3 e => br_t (sq_v (P := fun z => nI i ≤ z) (pk_mul ((i + 20) / 21) 21) (nI_le (by omega) (by omega))) (sq_v (P := post) e (by rw [Nat.min_eq_right (by omega)]; exact h)))
    (fun n' w x3 hw e k => by
      have hw' : 21 * w < i := by omega
      subst e
      have m21 : nI w * 21 = nI (w * 21) := pk_mul w 21
      refine br_f (by rw [m21]; exact nI_ge (by omega) (by omega)) ⟨vp_in_nI (by omega) (by decide), nm_e (nm_r (e' := sq_same (a_plainWords w) (nI v)) (by rw [nI_clamp (by omega)]; rfl) (nm_r (e' := nI (i - 21 * w)) (by rw [m21, pk_sub (by omega), Nat.mul_comm w 21]) ?_))⟩
      rw [Nat.min_eq_left (by omega : 21 * w ≤ i)]
      refine pk_le 21 (i - 21 * w) (fun h21 => ?_) (fun h21 => ?_)
      · refine sq_xones (nm_r (e' := nI (sq_rk L v (min (21 * (w + 1)) i))) ?_ (nm_r (nI_1 w) (k _ rfl)))
        rw [nI_add, sq_same64 _ hv, ← sq_rk21 H (Nat.le_refl 21) (by omega), Nat.min_eq_left (by omega), show 21 * (w + 1) = 21 * w + 21 by omega]
      · have s3 : nI (i - 21 * w) * 3 = nI (3 * (i - 21 * w)) := by rw [Nat.mul_comm 3]; exact pk_mul (i - 21 * w) 3
        refine nm_e (sq_xones (nm_r (e' := nI (sq_rk L v (min (21 * (w + 1)) i))) ?_ (nm_r (nI_1 w) (k _ rfl))))
        rw [s3, sq_pcm _ (by omega), nI_add, sq_samec _ hv (by omega), ← sq_rk21 H (by omega) (by omega), Nat.min_eq_right (by omega), show 21 * w + (i - 21 * w) = i by omega])
theorem sq_xrowsLetter {post : Int32 → Prop} {L : Nat → Nat} {n i : Nat} (hL : ∀ j, L j < 8) (hn : n ≤ 200) (H : sq_P3 L n a_letterRows) (hi : i < n) (h : post (nI (L i))) : wpX_rowsLetter post ((nI n), f_runCount, f_streamLength, a_letters, a_plainWords, a_treeBits, a_matrixBits, a_matrixZeros, a_letterRows, a_runWords, a_letterCounts, a_groupWeights, a_groupOf, a_codeLengths, a_codes, a_codesOfLength, a_lettersByCode, a_stream, a_sampleStarts, a_sampleRanks, a_sparseHigh, a_sparseLow) (nI i) := by
  have g : ∀ l, nI l * 256 + nI i = nI (256 * l + i) := fun l => by
    rw [show nI l * 256 = nI (l * 256) from pk_mul l 256, nI_add]
    exact congrArg nI (by omega)
  have h8 := hL i
  exact loop_0 (σ := Unit) (fun n' l _ => wX_rowsLetter_2 post (nI i) (nI n) f_runCount f_streamLength a_letters a_plainWords a_treeBits a_matrixBits a_matrixZeros a_letterRows a_runWords a_letterCounts a_groupWeights a_groupOf a_codeLengths a_codes a_codesOfLength a_lettersByCode a_stream a_sampleStarts a_sampleRanks a_sparseHigh a_sparseLow n' (nI l)) (fun _ _ => True) (L i) () trivial
    (fun n' _ _ => br_f (nI_ge (b := 8) h8 (by decide)) (sq_v (P := fun z => wpX_bitAt__letterRows _ ((nI n), f_runCount, f_streamLength, a_letters, a_plainWords, a_treeBits, a_matrixBits, a_matrixZeros, a_letterRows, a_runWords, a_letterCounts, a_groupWeights, a_groupOf, a_codeLengths, a_codes, a_codesOfLength, a_lettersByCode, a_stream, a_sampleStarts, a_sampleRanks, a_sparseHigh, a_sparseLow) z) (g _) (sq_xbit_letterRows (by omega) (by
      rw [H (L i) h8 i hi, decide_eq_true rfl]
      exact br_t rfl h))))
    (fun n' l _ hl _ k => br_f (nI_ge (b := 8) (by omega) (by decide)) (sq_v (P := fun z => wpX_bitAt__letterRows _ ((nI n), f_runCount, f_streamLength, a_letters, a_plainWords, a_treeBits, a_matrixBits, a_matrixZeros, a_letterRows, a_runWords, a_letterCounts, a_groupWeights, a_groupOf, a_codeLengths, a_codes, a_codesOfLength, a_lettersByCode, a_stream, a_sampleStarts, a_sampleRanks, a_sparseHigh, a_sparseLow) z) (g _) (sq_xbit_letterRows (by omega) (by
      rw [H l (by omega) i hi, decide_eq_false (by omega)]
      exact br_f (by decide) (nm_r (nI_1 l) (k () trivial))))))
theorem sq_xrowsRank {post : Int32 → Prop} {L : Nat → Nat} {n v i : Nat} (hn : n ≤ 200) (H : sq_P3 L n a_letterRows) (hv : v < 8) (hi : i ≤ n) (h : post (nI (sq_rk L v i))) : wpX_onesBefore__letterRows post ((nI n), f_runCount, f_streamLength, a_letters, a_plainWords, a_treeBits, a_matrixBits, a_matrixZeros, a_letterRows, a_runWords, a_letterCounts, a_groupWeights, a_groupOf, a_codeLengths, a_codes, a_codesOfLength, a_lettersByCode, a_stream, a_sampleStarts, a_sampleRanks, a_sparseHigh, a_sparseLow) (nI v * 4) (nI i) :=
  sq_xrow_letterRows rfl (by omega) (by
    have e : sq_o (sq_B a_letterRows) v i = sq_rk L v i := sq_ccg i (fun j hj => H v hv j (by omega))
    rw [e]
    exact h)
theorem sq_xrunLen {post : Int32 → Prop} {k : Nat} (hk : k < 200) (h : post (nI (sq_F 11 5 a_runWords k % 256))) : wpX_runLengthAt post (f_length, f_runCount, f_streamLength, a_letters, a_plainWords, a_treeBits, a_matrixBits, a_matrixZeros, a_letterRows, a_runWords, a_letterCounts, a_groupWeights, a_groupOf, a_codeLengths, a_codes, a_codesOfLength, a_lettersByCode, a_stream, a_sampleStarts, a_sampleRanks, a_sparseHigh, a_sparseLow) (nI k) :=
  ⟨by decide, nm_r (sq_r5 (by omega)) ⟨by decide, sq_v (P := fun z => vp_in z 40) (sq_d5 (by omega)) (vp_in_nI (by omega) (by decide)), sq_v (P := post) (by
    rw [sq_d5 (by omega), nI_clamp (by omega), sq_getw (b := 8) _ (by omega) (by decide) (by decide), sq_f256]) h⟩⟩
theorem sq_xrunLet {post : Int32 → Prop} {k : Nat} (hk : k < 200) (h : post (nI (sq_F 11 5 a_runWords k / 256 % 8))) : wpX_runLetterAt post (f_length, f_runCount, f_streamLength, a_letters, a_plainWords, a_treeBits, a_matrixBits, a_matrixZeros, a_letterRows, a_runWords, a_letterCounts, a_groupWeights, a_groupOf, a_codeLengths, a_codes, a_codesOfLength, a_lettersByCode, a_stream, a_sampleStarts, a_sampleRanks, a_sparseHigh, a_sparseLow) (nI k) :=
  ⟨by decide, nm_r (e' := nI (11 * (k % 5) + 8)) (by rw [sq_r5 (by omega)]; exact nI_add _ 8) ⟨by decide, sq_v (P := fun z => vp_in z 40) (sq_d5 (by omega)) (vp_in_nI (by omega) (by decide)), sq_v (P := post) (by
    rw [sq_d5 (by omega), nI_clamp (by omega), sq_getw (b := 3) _ (by omega) (by decide) (by decide), sq_f2568]) h⟩⟩
theorem sq_xrunsLetter {post : Int32 → Prop} {L : Nat → Nat} {n i : Nat} (hL : ∀ j, L j < 8) (hn : n ≤ 200) (H : sq_P4 L n a_runWords f_runCount) (hi : i < n) (h : post (nI (L i))) : wpX_runsLetter post ((nI n), f_runCount, f_streamLength, a_letters, a_plainWords, a_treeBits, a_matrixBits, a_matrixZeros, a_letterRows, a_runWords, a_letterCounts, a_groupWeights, a_groupOf, a_codeLengths, a_codes, a_codesOfLength, a_lettersByCode, a_stream, a_sampleStarts, a_sampleRanks, a_sparseHigh, a_sparseLow) (nI i) := by
  obtain ⟨r, st, hr, _, R⟩ := H
  subst hr
  have hrn := sq_RIr R r (Nat.le_refl r)
  have hsr := R.2.1
  obtain ⟨k0, f1, f2, f3⟩ := sq_RIfind (i := i) R r (Nat.le_refl r) (by omega)
  have lenE : ∀ k, k < r → sq_F 11 5 a_runWords k % 256 = st (k + 1) - st k ∧ sq_F 11 5 a_runWords k / 256 % 8 = L (st k) := by
    intro k hk
    obtain ⟨u1, u2, u3, u4⟩ := R.2.2 k hk
    have := hL (st k)
    rw [u3]
    omega
  exact loop_0 (σ := Int32) (fun n' k x2 => wX_runsLetter_4 post (nI i) (nI n) (nI r) f_streamLength a_letters a_plainWords a_treeBits a_matrixBits a_matrixZeros a_letterRows a_runWords a_letterCounts a_groupWeights a_groupOf a_codeLengths a_codes a_codesOfLength a_lettersByCode a_stream a_sampleStarts a_sampleRanks a_sparseHigh a_sparseLow n' x2 (nI k)) (fun k x2 => x2 = nI (st k)) k0 0 (by rw [R.1]; rfl)
    (fun n' x2 e => by
      subst e
      have u := R.2.2 k0 f1
      refine br_f (nI_ge f1 (by omega)) (sq_xrunLen (by omega) ?_)
      rw [(lenE k0 f1).1]
      refine nm_r (e' := nI (st (k0 + 1))) (by rw [nI_add]; exact congrArg nI (by omega)) (br_f (nI_ge f3 (by omega)) (sq_xrunLet (by omega) ?_))
      rw [(lenE k0 f1).2, ← u.2.2.2 i f2 f3]
      exact h)
    (fun n' k x2 hk e c => by
      subst e
      have u := R.2.2 k (by omega)
      have w := sq_RIst R (j := k + 1) k0 (by omega) (by omega)
      refine br_f (nI_ge (by omega) (by omega)) (sq_xrunLen (by omega) ?_)
      rw [(lenE k (by omega)).1]
      exact nm_r (e' := nI (st (k + 1))) (by rw [nI_add]; exact congrArg nI (by omega)) (br_t (nI_le (by omega) (by omega)) (nm_r (nI_1 k) (c _ rfl))))
theorem sq_xrunsRank {post : Int32 → Prop} {L : Nat → Nat} {n v i : Nat} (hL : ∀ j, L j < 8) (hn : n ≤ 200) (H : sq_P4 L n a_runWords f_runCount) (hv : v < 8) (hi : i ≤ n) (h : post (nI (sq_rk L v i))) : wpX_runsRank post ((nI n), f_runCount, f_streamLength, a_letters, a_plainWords, a_treeBits, a_matrixBits, a_matrixZeros, a_letterRows, a_runWords, a_letterCounts, a_groupWeights, a_groupOf, a_codeLengths, a_codes, a_codesOfLength, a_lettersByCode, a_stream, a_sampleStarts, a_sampleRanks, a_sparseHigh, a_sparseLow) (nI v) (nI i) := by
  obtain ⟨r, st, hr, _, R⟩ := H
  subst hr
  have hrn := sq_RIr R r (Nat.le_refl r)
  have hsr := R.2.1
  have lenE : ∀ k, k < r → sq_F 11 5 a_runWords k % 256 = st (k + 1) - st k ∧ sq_F 11 5 a_runWords k / 256 % 8 = L (st k) := by
    intro k hk
    obtain ⟨u1, u2, u3, u4⟩ := R.2.2 k hk
    have := hL (st k)
    rw [u3]
    omega
  exact loop_0 (σ := Int32 × Int32) (fun n' k s => wX_runsRank_8 post (nI v) (nI i) (nI n) (nI r) f_streamLength a_letters a_plainWords a_treeBits a_matrixBits a_matrixZeros a_letterRows a_runWords a_letterCounts a_groupWeights a_groupOf a_codeLengths a_codes a_codesOfLength a_lettersByCode a_stream a_sampleStarts a_sampleRanks a_sparseHigh a_sparseLow n' s.1 s.2 (nI k)) (fun k s => s.1 = nI (sq_rk L v (min (st k) i)) ∧ s.2 = nI (st k)) r (0, 0)
    (by rw [R.1, Nat.zero_min]; exact ⟨rfl, rfl⟩)
    (fun n' s e => br_t (nI_le (Nat.le_refl r) (by omega)) (sq_v (P := post) e.1 (by rw [hsr, Nat.min_eq_right hi]; exact h)))
    (fun n' k s hk e c => by
      obtain ⟨s1, s2⟩ := s
      obtain ⟨e1, e2⟩ := e
      have e1' : s1 = nI (sq_rk L v (min (st k) i)) := e1
      have e2' : s2 = nI (st k) := e2
      subst e1' e2'
      obtain ⟨u1, u2, u3, u4⟩ := R.2.2 k hk
      obtain ⟨v1, v2⟩ := lenE k hk
      refine br_f (nI_ge hk (by omega)) (pk_le i (st k) (fun hik => ?_) (fun hik => ?_))
      · rw [Nat.min_eq_right hik]
        exact h
      · refine sq_xrunLen (by omega) (sq_xrunLet (by omega) ?_)
        rw [v1, v2, Nat.min_eq_left (by omega : st k ≤ i)]
        have hl7 := hL (st k)
        have x4 : nI (st k) + nI (st (k + 1) - st k) = nI (st (k + 1)) := by rw [nI_add]; exact congrArg nI (by omega)
        refine pk_eq (L (st k)) v (fun hd => ?_) (fun hd => ?_)
        · refine nm_r (pk_sub (by omega)) (pk_le (i - st k) (st (k + 1) - st k) (fun hh => ?_) (fun hh => ?_))
          · refine nm_r (e' := nI (sq_rk L v (min (st (k + 1)) i))) ?_ (nm_r x4 (nm_r (nI_1 k) (c (_, _) ⟨rfl, rfl⟩)))
            have w := sq_rkrun (l := v) u4 (i - st k) (by omega)
            rw [if_pos hd, show st k + (i - st k) = i by omega] at w
            rw [nI_add, Nat.min_eq_right (by omega), w]
          · refine nm_r (e' := nI (sq_rk L v (min (st (k + 1)) i))) ?_ (nm_r x4 (nm_r (nI_1 k) (c (_, _) ⟨rfl, rfl⟩)))
            have w := sq_rkrun (l := v) u4 (st (k + 1) - st k) (by omega)
            rw [if_pos hd, show st k + (st (k + 1) - st k) = st (k + 1) by omega] at w
            rw [nI_add, Nat.min_eq_left (by omega), w]
        · refine nm_r x4 (nm_r (nI_1 k) (c (_, _) ⟨?_, rfl⟩))
          show nI (sq_rk L v (st k)) = nI (sq_rk L v (min (st (k + 1)) i))
          have w := sq_rkrun (l := v) u4 (min (st (k + 1)) i - st k) (by omega)
          rw [if_neg hd, show st k + (min (st (k + 1)) i - st k) = min (st (k + 1)) i by omega] at w
          rw [w, Nat.add_zero])
end
end
section
-- Part 15: reading the code's stream and the sparse row (written by wip/whole/gen15.py)
theorem sq_d16 {p : Nat} (hp : p < 2 ^ 31) : nI p >>> ((4 : Int32) &&& 31) = nI (p / 16) := pk_shrN hp _ 4 (by decide)
theorem sq_m16 {p : Nat} (hp : p < 2 ^ 27) : nI p <<< ((4 : Int32) &&& 31) = nI (16 * p) := by
  rw [Nat.mul_comm]
  exact pk_shlN _ 4 (by decide) (by omega)
theorem sq_d8 {p : Nat} (hp : p < 2 ^ 31) : nI p / 8 = nI (p / 8) := pk_div (d := 8) hp (by decide) (by decide)
theorem sq_r8 {p : Nat} (hp : p < 2 ^ 31) : nI p - nI p / 8 * 8 = nI (p % 8) := pk_rem (d := 8) hp (by decide) (by decide)
section
variable {f_length f_runCount f_streamLength : Int32} {a_letters : Nat → Int32} {a_plainWords a_treeBits a_matrixBits : Nat → Int64} {a_matrixZeros : Nat → Int32} {a_letterRows a_runWords : Nat → Int64} {a_letterCounts a_groupWeights a_groupOf a_codeLengths a_codes a_codesOfLength a_lettersByCode : Nat → Int32} {a_stream : Nat → Int64} {a_sampleStarts a_sampleRanks : Nat → Int32} {a_sparseHigh a_sparseLow : Nat → Int64}
theorem sq_xread {post : Int32 → Prop} {L : Nat → Nat} {n q : Nat} {len : Nat → Nat} (hL : ∀ j, L j < 8) (hn : n ≤ 200) (H : sq_CP L n len a_codeLengths a_codesOfLength a_lettersByCode (sq_B a_stream) a_sampleStarts a_sampleRanks f_streamLength) (h600 : sq_T L len n ≤ 600) (hq : q < n) (h : post (nI (L q))) : wpX_readLetter post ((nI n), f_runCount, f_streamLength, a_letters, a_plainWords, a_treeBits, a_matrixBits, a_matrixZeros, a_letterRows, a_runWords, a_letterCounts, a_groupWeights, a_groupOf, a_codeLengths, a_codes, a_codesOfLength, a_lettersByCode, a_stream, a_sampleStarts, a_sampleRanks, a_sparseHigh, a_sparseLow) (nI (sq_T L len q)) := by
  obtain ⟨h1, h2, h3, h4, h5, h6, h7, h8⟩ := H
  have hl := sq_CPl hL h1 hq
  have hT := sq_Tmono L len (a := q + 1) n (by omega)
  rw [sq_Ts] at hT
  have w0 := sq_w0 h1.2.2 (hL q) hl.1 hl.2
  exact pk_loop (σ := Int32 × Int32 × Int32) (fun n' s x => wX_readLetter_10 post (nI (sq_T L len q)) (nI n) f_runCount f_streamLength a_letters a_plainWords a_treeBits a_matrixBits a_matrixZeros a_letterRows a_runWords a_letterCounts a_groupWeights a_groupOf a_codeLengths a_codes a_codesOfLength a_lettersByCode a_stream a_sampleStarts a_sampleRanks a_sparseHigh a_sparseLow n' x.1 x.2.1 x.2.2 (nI s))
    (fun s x => 1 ≤ s ∧ x.1 = nI (sq_w len (L q) / 2 ^ (len (L q) - (s - 1))) ∧ x.2.1 = nI (sq_f len s) ∧ x.2.2 = nI (sq_i len s)) (len (L q)) 1 (0, 0, 0) hl.1
    ⟨Nat.le_refl 1, (congrArg nI (Nat.div_eq_of_lt (by rw [Nat.sub_self, Nat.sub_zero]; exact w0))).symm, rfl, rfl⟩
    (fun n' x e => by
      obtain ⟨x1, x2, x3⟩ := x
      obtain ⟨e0, e1, e2, e3⟩ := e
      have e1' : x1 = nI (sq_w len (L q) / 2 ^ (len (L q) - (len (L q) - 1))) := e1
      have e2' : x2 = nI (sq_f len (len (L q))) := e2
      have e3' : x3 = nI (sq_i len (len (L q))) := e3
      subst e1' e2' e3'
      have rd := sq_rd (len := len) (hL q) hl.1 (Nat.le_refl _)
      have nx := sq_nx (sq_w len (L q)) (len (L q) - len (L q))
      have bt := h5.1 q hq (len (L q) - 1) (by omega)
      have g : nI (sq_T L len q) + nI (len (L q)) - 1 = nI (sq_T L len q + (len (L q) - 1)) := by
        rw [nI_add]
        exact (pk_sub (b := 1) (by omega)).trans (congrArg nI (by omega))
      have hin : vp_in (nI (len (L q))) 8 := vp_in_nI (by omega) (by decide)
      refine br_f (nI_ge (b := 8) (by omega) (by decide)) (sq_v (P := fun z => wpX_bitAt__stream _ ((nI n), f_runCount, f_streamLength, a_letters, a_plainWords, a_treeBits, a_matrixBits, a_matrixZeros, a_letterRows, a_runWords, a_letterCounts, a_groupWeights, a_groupOf, a_codeLengths, a_codes, a_codesOfLength, a_lettersByCode, a_stream, a_sampleStarts, a_sampleRanks, a_sparseHigh, a_sparseLow) z) g (sq_xbit_stream (by omega) ?_))
      rw [bt, show len (L q) - 1 - (len (L q) - 1) = len (L q) - len (L q) by omega]
      refine nm_r (e' := nI (sq_w len (L q) / 2 ^ (len (L q) - len (L q)))) ?_ (nm_r (pk_sub rd.1) ⟨hin, ?_⟩)
      · show nI _ * nI 2 + nI _ = _
        rw [pk_mul, nI_add, nx, show len (L q) - (len (L q) - 1) = len (L q) - len (L q) + 1 by omega, Nat.mul_comm]
      · have c1 := rd.2.2 rfl
        rw [c1.1, nI_clamp (by omega), h3 _ hl.1 (by omega)]
        have n8 : sq_n len (len (L q)) ≤ 8 := sq_cle _ 8
        have ix := sq_ix8 (len := len) (hL q) hl.1
        refine br_f (nI_ge c1.2 (by omega)) ⟨sq_v (P := fun z => vp_in z 8) (nI_add _ _) (vp_in_nI ix (by decide)), ?_⟩
        rw [nI_add, show sq_i len (len (L q)) + sq_c (fun k => decide (len k = len (L q))) (L q) = sq_ix len (L q) from rfl, nI_clamp (by omega), h4 _ (hL q) hl.1]
        exact h)
    (fun n' s x hs e k => by
      obtain ⟨x1, x2, x3⟩ := x
      obtain ⟨e0, e1, e2, e3⟩ := e
      have e1' : x1 = nI (sq_w len (L q) / 2 ^ (len (L q) - (s - 1))) := e1
      have e2' : x2 = nI (sq_f len s) := e2
      have e3' : x3 = nI (sq_i len s) := e3
      subst e1' e2' e3'
      have rd := sq_rd (len := len) (hL q) e0 (Nat.le_of_lt hs)
      have nx := sq_nx (sq_w len (L q)) (len (L q) - s)
      have bt := h5.1 q hq (s - 1) (by omega)
      have g : nI (sq_T L len q) + nI s - 1 = nI (sq_T L len q + (s - 1)) := by
        rw [nI_add]
        exact (pk_sub (b := 1) (by omega)).trans (congrArg nI (by omega))
      have hin : vp_in (nI s) 8 := vp_in_nI (by omega) (by decide)
      refine br_f (nI_ge (b := 8) (by omega) (by decide)) (sq_v (P := fun z => wpX_bitAt__stream _ ((nI n), f_runCount, f_streamLength, a_letters, a_plainWords, a_treeBits, a_matrixBits, a_matrixZeros, a_letterRows, a_runWords, a_letterCounts, a_groupWeights, a_groupOf, a_codeLengths, a_codes, a_codesOfLength, a_lettersByCode, a_stream, a_sampleStarts, a_sampleRanks, a_sparseHigh, a_sparseLow) z) g (sq_xbit_stream (by omega) ?_))
      rw [bt, show len (L q) - 1 - (s - 1) = len (L q) - s by omega]
      have wb : sq_w len (L q) / 2 ^ (len (L q) - s) < 2 ^ 31 := by
        have a1 : sq_w len (L q) / 2 ^ (len (L q) - s) ≤ sq_w len (L q) := Nat.div_le_self _ _
        have a2 : 2 ^ len (L q) ≤ 2 ^ 7 := Nat.pow_le_pow_right (by decide) hl.2
        omega
      refine nm_r (e' := nI (sq_w len (L q) / 2 ^ (len (L q) - s))) ?_ (nm_r (pk_sub rd.1) ⟨hin, ?_⟩)
      · show nI _ * nI 2 + nI _ = _
        rw [pk_mul, nI_add, nx, show len (L q) - (s - 1) = len (L q) - s + 1 by omega, Nat.mul_comm]
      · have c1 := rd.2.1 hs
        rw [nI_clamp (by omega), h3 s e0 (by omega)]
        refine br_t (nI_le c1 (by omega)) ⟨hin, nm_r (nI_add _ _) ⟨hin, nm_r (e' := nI (sq_f len (s + 1))) ?_ (nm_r (nI_1 s) (k (_, _, _) ⟨by omega, ?_, rfl, ?_⟩))⟩⟩
        · show (nI _ + nI _) * nI 2 = _
          obtain ⟨t, rfl⟩ : ∃ t, s = t + 1 := ⟨s - 1, by omega⟩
          rw [nI_add, pk_mul, Nat.mul_comm]
          rfl
        · show nI _ = nI _
          rw [Nat.add_sub_cancel]
        · show nI _ = nI _
          obtain ⟨t, rfl⟩ : ∃ t, s = t + 1 := ⟨s - 1, by omega⟩
          rfl)
theorem sq_xcodeLetter {post : Int32 → Prop} {L : Nat → Nat} {n i : Nat} {len : Nat → Nat} (hL : ∀ j, L j < 8) (hn : n ≤ 200) (H : sq_CP L n len a_codeLengths a_codesOfLength a_lettersByCode (sq_B a_stream) a_sampleStarts a_sampleRanks f_streamLength) (h600 : sq_T L len n ≤ 600) (hi : i < n) (h : post (nI (L i))) : wpX_codeLetter post ((nI n), f_runCount, f_streamLength, a_letters, a_plainWords, a_treeBits, a_matrixBits, a_matrixZeros, a_letterRows, a_runWords, a_letterCounts, a_groupWeights, a_groupOf, a_codeLengths, a_codes, a_codesOfLength, a_lettersByCode, a_stream, a_sampleStarts, a_sampleRanks, a_sparseHigh, a_sparseLow) (nI i) := by
  have s0 := (H.2.2.2.2.2.1 (i / 16) (by omega)).1
  refine nm_r (sq_d16 (by omega)) ⟨vp_in_nI (by omega) (by decide), nm_r (e' := nI (sq_T L len (16 * (i / 16)))) (by rw [nI_clamp (by omega), s0]) (nm_r (sq_m16 (by omega)) ?_)⟩
  exact pk_loop (σ := Int32) (fun n' q x3 => wX_codeLetter_16 post (nI i) (nI n) f_runCount f_streamLength a_letters a_plainWords a_treeBits a_matrixBits a_matrixZeros a_letterRows a_runWords a_letterCounts a_groupWeights a_groupOf a_codeLengths a_codes a_codesOfLength a_lettersByCode a_stream a_sampleStarts a_sampleRanks a_sparseHigh a_sparseLow n' x3 (nI q)) (fun q x3 => x3 = nI (sq_T L len q)) i (16 * (i / 16)) (nI (sq_T L len (16 * (i / 16)))) (by omega) rfl
    (fun n' x3 e => by
      subst e
      exact br_t (nI_le (Nat.le_refl i) (by omega)) (sq_xread hL hn H h600 hi h))
    (fun n' q x3 hq e k => by
      subst e
      have h8 := hL q
      refine br_f (nI_ge hq (by omega)) (sq_xread hL hn H h600 (by omega) ⟨vp_in_nI h8 (by decide), nm_r (e' := nI (sq_T L len (q + 1))) ?_ (nm_r (nI_1 q) (k _ rfl))⟩)
      rw [nI_clamp (by omega), H.2.1 _ h8, nI_add, sq_Ts])
theorem sq_xcodeRank {post : Int32 → Prop} {L : Nat → Nat} {n v i : Nat} {len : Nat → Nat} (hL : ∀ j, L j < 8) (hn : n ≤ 200) (H : sq_CP L n len a_codeLengths a_codesOfLength a_lettersByCode (sq_B a_stream) a_sampleStarts a_sampleRanks f_streamLength) (h600 : sq_T L len n ≤ 600) (hv : v < 8) (hi : i ≤ n) (h : post (nI (sq_rk L v i))) : wpX_codeRank post ((nI n), f_runCount, f_streamLength, a_letters, a_plainWords, a_treeBits, a_matrixBits, a_matrixZeros, a_letterRows, a_runWords, a_letterCounts, a_groupWeights, a_groupOf, a_codeLengths, a_codes, a_codesOfLength, a_lettersByCode, a_stream, a_sampleStarts, a_sampleRanks, a_sparseHigh, a_sparseLow) (nI v) (nI i) := by
  have s0 := H.2.2.2.2.2.1 (i / 16) (by omega)
  have g : nI (i / 16) * 8 + nI v = nI (8 * (i / 16) + v) := by
    rw [show nI (i / 16) * 8 = nI (i / 16 * 8) from pk_mul _ 8, nI_add]
    exact congrArg nI (by omega)
  refine nm_r (sq_d16 (by omega)) ⟨vp_in_nI (by omega) (by decide), nm_r (e' := nI (sq_T L len (16 * (i / 16)))) (by rw [nI_clamp (by omega), s0.1]) ⟨sq_v (P := fun z => vp_in z 104) g (vp_in_nI (by omega) (by decide)), nm_r (e' := nI (sq_rk L v (16 * (i / 16)))) (by rw [g, nI_clamp (by omega), s0.2 v hv]) (nm_r (sq_m16 (by omega)) ?_)⟩⟩
  exact pk_loop (σ := Int32 × Int32) (fun n' q s => wX_codeRank_30 post (nI v) (nI i) (nI n) f_runCount f_streamLength a_letters a_plainWords a_treeBits a_matrixBits a_matrixZeros a_letterRows a_runWords a_letterCounts a_groupWeights a_groupOf a_codeLengths a_codes a_codesOfLength a_lettersByCode a_stream a_sampleStarts a_sampleRanks a_sparseHigh a_sparseLow n' s.1 s.2 (nI q)) (fun q s => s.1 = nI (sq_T L len q) ∧ s.2 = nI (sq_rk L v q)) i (16 * (i / 16)) (nI (sq_T L len (16 * (i / 16))), nI (sq_rk L v (16 * (i / 16)))) (by omega) ⟨rfl, rfl⟩
    (fun n' s e => br_t (nI_le (Nat.le_refl i) (by omega)) (sq_v (P := post) e.2 h))
    (fun n' q s hq e k => by
      obtain ⟨s1, s2⟩ := s
      obtain ⟨e1, e2⟩ := e
      have e1' : s1 = nI (sq_T L len q) := e1
      have e2' : s2 = nI (sq_rk L v q) := e2
      subst e1' e2'
      have h8 := hL q
      refine br_f (nI_ge hq (by omega)) (sq_xread hL hn H h600 (by omega) ⟨vp_in_nI h8 (by decide), nm_r (e' := nI (sq_T L len (q + 1))) (by rw [nI_clamp (by omega), H.2.1 _ h8, nI_add, sq_Ts]) (pk_eq (L q) v (fun z => ?_) (fun z => ?_))⟩)
      · exact nm_r (nI_1 _) (nm_r (nI_1 q) (k (_, _) ⟨rfl, congrArg nI (sq_rkt z).symm⟩))
      · exact nm_r (nI_1 q) (k (_, _) ⟨rfl, congrArg nI (sq_rkf z).symm⟩))
theorem sq_xziw {post : Int32 → Prop} {a : Nat → Int64} {k lf : Nat} (h1 : lf < 64 - sq_pc (a k)) (h : ∀ b, b < 64 → sq_B a (64 * k + b) = false → sq_z (sq_B a) (64 * k + b) = sq_z (sq_B a) (64 * k) + lf → post (nI b)) : wpX_zeroInWord post (a k) (nI lf) :=
  loop_0 (σ := Int32) (fun n' b x3 => wX_zeroInWord_5 post (a k) n' x3 (nI b)) (fun b x3 => ∃ c, x3 = nI c ∧ c ≤ lf ∧ sq_z (sq_B a) (64 * k + b) + c = sq_z (sq_B a) (64 * k) + lf) 64 (nI lf)
    ⟨lf, rfl, Nat.le_refl _, rfl⟩
    (fun n' x3 e => by
      obtain ⟨c, _, _, e2⟩ := e
      have := sq_zw a k
      omega)
    (fun n' b x3 hb e c => by
      obtain ⟨d, e1, e3, e2⟩ := e
      subst e1
      refine br_f (nI_ge (b := 64) hb (by decide)) ?_
      have eb : (uN (a k)).testBit b = sq_B a (64 * k + b) := by
        unfold sq_B
        rw [show (64 * k + b) / 64 = k by omega, show (64 * k + b) % 64 = b by omega]
      rw [sq_bitl _ hb, eb]
      have hpc := sq_pcle (a k)
      cases hB : sq_B a (64 * k + b) with
      | false =>
        refine br_t (by decide) (pk_eq d 0 (fun z => ?_) (fun z => ?_))
        · exact h b hb hB (by omega)
        · have e4 := sq_zt hB
          exact nm_r (e' := nI (d - 1)) (by
            obtain ⟨y, rfl⟩ : ∃ y, d = y + 1 := ⟨d - 1, by omega⟩
            exact pk_m1 y) (nm_r (nI_1 b) (c _ ⟨d - 1, rfl, by omega, by rw [← Nat.add_assoc, e4]; omega⟩))
      | true =>
        have e4 := sq_zf hB
        exact br_f (by decide) (nm_r (nI_1 b) (c _ ⟨d, rfl, e3, by rw [← Nat.add_assoc, e4]; exact e2⟩)))
theorem sq_xzp {post : Int32 → Prop} {m : Nat} (hz : m < sq_z (sq_B a_sparseHigh) 512) (h : ∀ P, P < 512 → sq_B a_sparseHigh P = false → sq_z (sq_B a_sparseHigh) P = m → post (nI P)) : wpX_zeroPlace__sparseHigh post (f_length, f_runCount, f_streamLength, a_letters, a_plainWords, a_treeBits, a_matrixBits, a_matrixZeros, a_letterRows, a_runWords, a_letterCounts, a_groupWeights, a_groupOf, a_codeLengths, a_codes, a_codesOfLength, a_lettersByCode, a_stream, a_sampleStarts, a_sampleRanks, a_sparseHigh, a_sparseLow) (nI m) :=
  have hm : m < 512 := Nat.lt_of_lt_of_le hz (sq_cle _ 512)
  loop_0 (σ := Int32) (fun n' k x2 => wX_zeroPlace__sparseHigh_4 post f_length f_runCount f_streamLength a_letters a_plainWords a_treeBits a_matrixBits a_matrixZeros a_letterRows a_runWords a_letterCounts a_groupWeights a_groupOf a_codeLengths a_codes a_codesOfLength a_lettersByCode a_stream a_sampleStarts a_sampleRanks a_sparseHigh a_sparseLow n' x2 (nI k)) (fun k x2 => ∃ c, x2 = nI c ∧ sq_z (sq_B a_sparseHigh) (64 * k) + c = m) 8 (nI m) ⟨m, rfl, Nat.zero_add m⟩
    (fun n' x2 e => by
      obtain ⟨c, _, e2⟩ := e
      have e2' : sq_z (sq_B a_sparseHigh) 512 + c = m := e2
      omega)
    (fun n' k x2 hk e c => by
      obtain ⟨d, e1, e2⟩ := e
      subst e1
      have hpc := sq_pcle (a_sparseHigh k)
      refine br_f (nI_ge (b := 8) hk (by decide)) ⟨vp_in_nI hk (by decide), ?_⟩
      rw [nI_clamp (by omega)]
      refine sq_xones (nm_r (e' := nI (64 - sq_pc (a_sparseHigh k))) (pk_sub (a := 64) hpc) (pk_le _ d (fun z => ?_) (fun z => ?_)))
      · refine nm_r (pk_sub z) (nm_r (nI_1 k) (c _ ⟨d - (64 - sq_pc (a_sparseHigh k)), rfl, ?_⟩))
        have := sq_zw a_sparseHigh k
        rw [show 64 * (k + 1) = 64 * k + 64 by omega, this]
        omega
      · refine ⟨vp_in_nI hk (by decide), sq_xziw z (fun b hb hB hzb => ?_)⟩
        have g : nI k * 64 + nI b = nI (64 * k + b) := by
          rw [show nI k * 64 = nI (k * 64) from pk_mul k 64, nI_add]
          exact congrArg nI (by omega)
        rw [g]
        exact h _ (by omega) hB (by omega))
theorem sq_xsbl {post : Int32 → Prop} {L : Nat → Nat} {n m : Nat} {x x3 : Int32} (hL : ∀ j, L j < 8) (hn : n ≤ 200) (H : sq_P6 L n a_sparseHigh a_sparseLow) (hm : m < 2048) (hx : x = nI (sq_k L n (8 * (m / 8)))) (hx3 : x3 = nI (m / 8 + sq_k L n (8 * (m / 8)))) (h : post (nI (sq_k L n m))) : ∃ n', wX_sparseBelow_34 post (nI m) x3 (nI n) f_runCount f_streamLength a_letters a_plainWords a_treeBits a_matrixBits a_matrixZeros a_letterRows a_runWords a_letterCounts a_groupWeights a_groupOf a_codeLengths a_codes a_codesOfLength a_lettersByCode a_stream a_sampleStarts a_sampleRanks a_sparseHigh a_sparseLow n' x 0 := by
  subst hx hx3
  have k1 := sq_kmono L n (show 8 * (m / 8) ≤ m by omega)
  have k2 := sq_kstep (L := L) (n := n) (by omega) (m - 8 * (m / 8)) (8 * (m / 8))
  rw [show 8 * (m / 8) + (m - 8 * (m / 8)) = m by omega] at k2
  have k3 := sq_kle L n m
  obtain ⟨HR, HF⟩ := H
  exact loop_0 (σ := Int32) (fun n' st x4 => wX_sparseBelow_34 post (nI m) (nI (m / 8 + sq_k L n (8 * (m / 8)))) (nI n) f_runCount f_streamLength a_letters a_plainWords a_treeBits a_matrixBits a_matrixZeros a_letterRows a_runWords a_letterCounts a_groupWeights a_groupOf a_codeLengths a_codes a_codesOfLength a_lettersByCode a_stream a_sampleStarts a_sampleRanks a_sparseHigh a_sparseLow n' x4 (nI st)) (fun st x4 => x4 = nI (sq_k L n (8 * (m / 8)) + st)) (sq_k L n m - sq_k L n (8 * (m / 8))) (nI (sq_k L n (8 * (m / 8)))) rfl
    (fun n' x4 e => by
      rw [show sq_k L n (8 * (m / 8)) + (sq_k L n m - sq_k L n (8 * (m / 8))) = sq_k L n m by omega] at e
      subst e
      refine br_f (nI_ge (b := 8) (by omega) (by decide)) ?_
      rw [nI_add, show m / 8 + sq_k L n (8 * (m / 8)) + (sq_k L n m - sq_k L n (8 * (m / 8))) = m / 8 + sq_k L n m by omega]
      refine sq_xbit_sparseHigh (by omega) ?_
      cases hB : sq_B a_sparseHigh (m / 8 + sq_k L n m) with
      | false => exact br_t rfl h
      | true =>
        obtain ⟨q, q1, q2, q3⟩ := sq_scan1 hn HR hm k1 (Nat.le_refl _) hB
        have hF := HF q q1
        rw [q3] at hF
        have kq := sq_kle L n (256 * L q + q + 1)
        have kt := sq_kt (L := L) (q := q) n (by omega) q1
        refine br_f (by decide) (sq_xtrip_sparseLow (by omega) ⟨by decide, ?_⟩)
        rw [hF, sq_r8 (by omega)]
        refine br_f (nI_nlt ?_ (by omega)) h
        by_cases z : 256 * L q + q < m
        · have := sq_kep (L := L) (n := n) (by omega) q1 z
          omega
        · omega)
    (fun n' st x4 hst e c => by
      subst e
      refine br_f (nI_ge (b := 8) (by omega) (by decide)) ?_
      rw [nI_add, Nat.add_assoc]
      refine sq_xbit_sparseHigh (by omega) ?_
      cases hB : sq_B a_sparseHigh (m / 8 + (sq_k L n (8 * (m / 8)) + st)) with
      | false =>
        have := sq_scan0 hn HR hm (Nat.le_add_right _ _) (by omega) hB
        omega
      | true =>
        obtain ⟨q, q1, q2, q3⟩ := sq_scan1 hn HR hm (Nat.le_add_right _ _) (by omega) hB
        have hF := HF q q1
        rw [q3] at hF
        refine br_f (by decide) (sq_xtrip_sparseLow (by omega) ⟨by decide, ?_⟩)
        rw [hF, sq_r8 (by omega)]
        refine br_t (nI_lt ?_ (by omega)) (nm_r (nI_1 _) (nm_r (nI_1 st) (c _ rfl)))
        by_cases z : 256 * L q + q < m
        · omega
        · have := sq_kmono L n (show m ≤ 256 * L q + q by omega)
          omega)
theorem sq_xsb {post : Int32 → Prop} {L : Nat → Nat} {n m : Nat} {x : Int32} (hL : ∀ j, L j < 8) (hn : n ≤ 200) (H : sq_P6 L n a_sparseHigh a_sparseLow) (hx : x = nI m) (hm : m < 2048) (h : post (nI (sq_k L n m))) : wpX_sparseBelow post ((nI n), f_runCount, f_streamLength, a_letters, a_plainWords, a_treeBits, a_matrixBits, a_matrixZeros, a_letterRows, a_runWords, a_letterCounts, a_groupWeights, a_groupOf, a_codeLengths, a_codes, a_codesOfLength, a_lettersByCode, a_stream, a_sampleStarts, a_sampleRanks, a_sparseHigh, a_sparseLow) x := by
  subst hx
  refine ⟨by decide, nm_r (sq_d8 (by omega)) (pk_eq (m / 8) 0 (fun z => ?_) (fun z => ?_))⟩
  · refine nm_r (e' := nI 0) (by rw [z]; rfl) (sq_xsbl hL hn H hm ?_ ?_ h)
    · rw [z, Nat.mul_zero, sq_k0]
    · rw [z, Nat.mul_zero, sq_k0]; rfl
  · refine sq_v (P := fun z => wpX_zeroPlace__sparseHigh _ ((nI n), f_runCount, f_streamLength, a_letters, a_plainWords, a_treeBits, a_matrixBits, a_matrixZeros, a_letterRows, a_runWords, a_letterCounts, a_groupWeights, a_groupOf, a_codeLengths, a_codes, a_codesOfLength, a_lettersByCode, a_stream, a_sampleStarts, a_sampleRanks, a_sparseHigh, a_sparseLow) z) (pk_sub (b := 1) (by omega)) (sq_xzp (sq_z512 hn H.1 (k := m / 8 - 1) (by omega)) (fun P hP hB hz => ?_))
    have e := sq_zk hn H.1 (by omega) hB hz
    rw [show 8 * (m / 8 - 1) + 8 = 8 * (m / 8) by omega] at e
    refine nm_r (e' := nI (m / 8 + sq_k L n (8 * (m / 8)))) (by rw [nI_1, e]; exact congrArg nI (by omega)) (nm_r (e' := nI (sq_k L n (8 * (m / 8)))) (by rw [pk_sub (by omega)]; exact congrArg nI (by omega)) (sq_xsbl hL hn H hm rfl rfl h))
theorem sq_xsparseLetter {post : Int32 → Prop} {L : Nat → Nat} {n i : Nat} (hL : ∀ j, L j < 8) (hn : n ≤ 200) (H : sq_P6 L n a_sparseHigh a_sparseLow) (hi : i < n) (h : post (nI (L i))) : wpX_sparseLetter post ((nI n), f_runCount, f_streamLength, a_letters, a_plainWords, a_treeBits, a_matrixBits, a_matrixZeros, a_letterRows, a_runWords, a_letterCounts, a_groupWeights, a_groupOf, a_codeLengths, a_codes, a_codesOfLength, a_lettersByCode, a_stream, a_sampleStarts, a_sampleRanks, a_sparseHigh, a_sparseLow) (nI i) := by
  have g : ∀ l, nI l * 256 + nI i = nI (256 * l + i) := fun l => by
    rw [show nI l * 256 = nI (l * 256) from pk_mul l 256, nI_add]
    exact congrArg nI (by omega)
  have h8 := hL i
  exact loop_0 (σ := Unit) (fun n' l _ => wX_sparseLetter_2 post (nI i) (nI n) f_runCount f_streamLength a_letters a_plainWords a_treeBits a_matrixBits a_matrixZeros a_letterRows a_runWords a_letterCounts a_groupWeights a_groupOf a_codeLengths a_codes a_codesOfLength a_lettersByCode a_stream a_sampleStarts a_sampleRanks a_sparseHigh a_sparseLow n' (nI l)) (fun _ _ => True) (L i) () trivial
    (fun n' _ _ => br_f (nI_ge (b := 8) h8 (by decide)) (nm_r (g _) (sq_xsb hL hn H rfl (by omega) (sq_xsb hL hn H (nI_1 _) (by omega) (by
      have a := sq_kle L n (256 * L i + i + 1)
      have b := sq_kt (L := L) (q := i) n (by omega) hi
      exact br_f (nI_ge (by omega) (by omega)) h)))))
    (fun n' l _ hl _ k => br_f (nI_ge (b := 8) (by omega) (by decide)) (nm_r (g _) (sq_xsb hL hn H rfl (by omega) (sq_xsb hL hn H (nI_1 _) (by omega) (by
      have a := sq_kle L n (256 * l + i)
      have b : sq_k L n (256 * l + i + 1) = sq_k L n (256 * l + i) := sq_kf n (fun q hq e => by
        have : q = i := by omega
        subst this
        omega)
      rw [b]
      exact br_t (nI_le (Nat.le_refl _) (by omega)) (nm_r (nI_1 l) (k () trivial)))))))
end
end
section
-- Part 16: letterBy and rankBy over the packed state (written by wip/whole/gen16.py)
def sq_PK (L : Nat → Nat) (n : Nat) (pw tb mb : Nat → Int64) (mz : Nat → Int32) (lr rw : Nat → Int64) (rc : Int32) (cl col lbc : Nat → Int32) (sm : Nat → Int64) (ss sr : Nat → Int32) (sl : Int32) (hi lo : Nat → Int64) : Prop :=
  sq_P0 L n pw ∧ sq_P1 L n tb ∧ sq_P2 L n mb mz ∧ sq_P3 L n lr ∧ sq_P4 L n rw rc ∧ (∃ len, sq_CP L n len cl col lbc (sq_B sm) ss sr sl) ∧ sq_P6 L n hi lo
theorem sq_T600 {L : Nat → Nat} {n : Nat} {len : Nat → Nat} (hL : ∀ j, L j < 8) (hn : n ≤ 200) (h : sq_T L len n = sq_bits (fun l => sq_rk L l n) n) : sq_T L len n ≤ 600 := by
  rw [h]
  exact sq_bits600 (sq_cnts L hL n) hn
section
variable {f_length f_runCount f_streamLength : Int32} {a_letters : Nat → Int32} {a_plainWords a_treeBits a_matrixBits : Nat → Int64} {a_matrixZeros : Nat → Int32} {a_letterRows a_runWords : Nat → Int64} {a_letterCounts a_groupWeights a_groupOf a_codeLengths a_codes a_codesOfLength a_lettersByCode : Nat → Int32} {a_stream : Nat → Int64} {a_sampleStarts a_sampleRanks : Nat → Int32} {a_sparseHigh a_sparseLow : Nat → Int64}
theorem sq_xletterBy {post : Int32 → Prop} {L : Nat → Nat} {n e i : Nat} (hL : ∀ j, L j < 8) (hn : n ≤ 200) (H : sq_PK L n a_plainWords a_treeBits a_matrixBits a_matrixZeros a_letterRows a_runWords f_runCount a_codeLengths a_codesOfLength a_lettersByCode a_stream a_sampleStarts a_sampleRanks f_streamLength a_sparseHigh a_sparseLow) (he : e < 7) (hi : i < n) (h : post (nI (L i))) : wpX_letterBy post ((nI n), f_runCount, f_streamLength, a_letters, a_plainWords, a_treeBits, a_matrixBits, a_matrixZeros, a_letterRows, a_runWords, a_letterCounts, a_groupWeights, a_groupOf, a_codeLengths, a_codes, a_codesOfLength, a_lettersByCode, a_stream, a_sampleStarts, a_sampleRanks, a_sparseHigh, a_sparseLow) (nI e) (nI i) := by
  obtain ⟨H0, H1, H2, H3, H4, ⟨len, H5⟩, H6⟩ := H
  have h600 := sq_T600 hL hn H5.2.2.2.2.2.2.2
  refine br_f (nI_pos (by omega)) (br_f (nI_nlt (a := 6) (by omega) (by decide)) (pk_eq e 0 (fun _ => ?_) (fun z0 => pk_eq e 1 (fun _ => ?_) (fun z1 => pk_eq e 2 (fun _ => ?_) (fun z2 => pk_eq e 3 (fun _ => ?_) (fun z3 => pk_eq e 4 (fun _ => ?_) (fun z4 => pk_eq e 5 (fun _ => ?_) (fun z5 => pk_eq e 6 (fun _ => ?_) (fun z6 => trivial)))))))))
  · exact sq_xtrip_plainWords (by omega) (by rw [H0 i hi]; exact h)
  · exact sq_xtreeLetter hL hn H1 hi h
  · exact sq_xmatrixLetter hL hn H2 hi h
  · exact sq_xrowsLetter hL hn H3 hi h
  · exact sq_xrunsLetter hL hn H4 hi h
  · exact sq_xcodeLetter hL hn H5 h600 hi h
  · exact sq_xsparseLetter hL hn H6 hi h
theorem sq_xrankBy {post : Int32 → Prop} {L : Nat → Nat} {n e v i : Nat} {x : Int32} (hL : ∀ j, L j < 8) (hn : n ≤ 200) (H : sq_PK L n a_plainWords a_treeBits a_matrixBits a_matrixZeros a_letterRows a_runWords f_runCount a_codeLengths a_codesOfLength a_lettersByCode a_stream a_sampleStarts a_sampleRanks f_streamLength a_sparseHigh a_sparseLow) (he : e < 7) (hv : v < 8) (hi : i ≤ n) (hx : x = nI i) (h : post (nI (sq_rk L v i))) : wpX_rankBy post ((nI n), f_runCount, f_streamLength, a_letters, a_plainWords, a_treeBits, a_matrixBits, a_matrixZeros, a_letterRows, a_runWords, a_letterCounts, a_groupWeights, a_groupOf, a_codeLengths, a_codes, a_codesOfLength, a_lettersByCode, a_stream, a_sampleStarts, a_sampleRanks, a_sparseHigh, a_sparseLow) (nI e) (nI v) x := by
  subst hx
  obtain ⟨H0, H1, H2, H3, H4, ⟨len, H5⟩, H6⟩ := H
  have h600 := sq_T600 hL hn H5.2.2.2.2.2.2.2
  refine br_f (nI_pos (by omega)) (br_f (nI_nlt (a := 6) (by omega) (by decide)) (pk_eq e 0 (fun _ => ?_) (fun z0 => pk_eq e 1 (fun _ => ?_) (fun z1 => pk_eq e 2 (fun _ => ?_) (fun z2 => pk_eq e 3 (fun _ => ?_) (fun z3 => pk_eq e 4 (fun _ => ?_) (fun z4 => pk_eq e 5 (fun _ => ?_) (fun z5 => pk_eq e 6 (fun _ => ?_) (fun z6 => trivial)))))))))
  · exact sq_xplainRank hn H0 hv hi h
  · exact sq_xtreeRank hL hn H1 hv hi h
  · exact sq_xmatrixRank hL hn H2 hv hi h
  · exact sq_xrowsRank hn H3 hv hi h
  · exact sq_xrunsRank hL hn H4 hv hi h
  · exact sq_xcodeRank hL hn H5 h600 hv hi h
  · have g : nI v * 256 + nI i = nI (256 * v + i) := by
      rw [show nI v * 256 = nI (v * 256) from pk_mul v 256, nI_add]
      exact congrArg nI (by omega)
    have g0 : nI v * 256 = nI (256 * v) := by
      rw [Nat.mul_comm]
      exact pk_mul v 256
    have kr := sq_krank (L := L) (l := v) hn hi
    refine sq_xsb hL hn H6 g (by omega) (sq_xsb hL hn H6 g0 (by omega) ?_)
    rw [pk_sub (by omega), kr, Nat.add_sub_cancel_left]
    exact h
end
end
section
-- Part 17: packing (written by wip/whole/gen17.py)
theorem sq_lc (L : Nat → Nat) {p : Nat} (hp : p < 2 ^ 31) : sq_l L (nI p).toNatClampNeg = nI (L p) := by rw [nI_clamp hp]; rfl
/-- the matrix's order of nodes -/
def sq_tu (l g : Nat) : Nat := if l = 2 then (if g = 1 then 2 else if g = 2 then 1 else g) else g
def sq_tv (g : Nat) : Nat → Nat
  | 0 => 0
  | b + 1 => sq_tv g b * 2 + g / 2 ^ b % 2
theorem sq_tv1 : ∀ g, g < 4 → ∀ b, b < 2 → nI (sq_tv g b) * 2 + ((nI g >>> (nI b &&& 31)) &&& 1) = nI (sq_tv g (b + 1)) := by decide +kernel
theorem sq_tv2 : ∀ l, l < 3 → ∀ g, g < 2 ^ l → sq_tv g l = sq_tu l g := by decide +kernel
theorem sq_tu4 : ∀ l, l < 3 → ∀ g, g < 2 ^ l → g < 4 ∧ sq_tu l g < 2 ^ l ∧ sq_tu l (sq_tu l g) = g := by decide +kernel
theorem sq_2l : ∀ l, l < 3 → (1 : Int32) <<< (nI l &&& 31) = nI (2 ^ l) ∧ 2 ^ l ≤ 4 := by decide +kernel
theorem sq_xturned {post : Int32 → Prop} {l g : Nat} (hl : l < 3) (hg : g < 2 ^ l) (h : post (nI (sq_tu l g))) : wpX_turned post (nI g) (nI l) :=
  loop_0 (σ := Int32) (fun n b x2 => wX_turned_4 post (nI g) (nI l) n x2 (nI b)) (fun b x2 => x2 = nI (sq_tv g b)) l 0 rfl
    (fun n x2 e => br_t (nI_le (Nat.le_refl l) (by omega)) (sq_v (P := post) e (by rw [sq_tv2 l hl g hg]; exact h)))
    (fun n b x2 hb e k => by
      subst e
      exact br_f (nI_ge hb (by omega)) (nm_r (sq_tv1 g (sq_tu4 l hl g hg).1 b (by omega)) (nm_r (nI_1 b) (k _ rfl))))
theorem sq_pl2 : ∀ l, l < 3 → ∀ v, v < 8 → v / 2 ^ (3 - l) < 2 ^ l := by decide +kernel
/-- a filled row, from its groups -/
theorem sq_RowG {L : Nat → Nat} {n l : Nat} {o st : Nat → Nat} {R : Nat → Bool} (hL : ∀ j, L j < 8) (hl : l < 3) (G : sq_Grp L n l o (2 ^ l) R) (ho : ∀ p, p < 2 ^ l → ∃ g, g < 2 ^ l ∧ o g = p ∧ sq_sg L n l o g = st p) : sq_Row L n l st R := by
  intro q hq
  obtain ⟨g, g1, g2, g3⟩ := ho _ (sq_pl2 l hl (L q) (hL q))
  have := G.2 g g1 q hq g2.symm
  rw [g2, g3, Nat.add_assoc] at this
  exact this
theorem sq_mord {L : Nat → Nat} {n l : Nat} (hL : ∀ j, L j < 8) (hl : l < 3) : (∀ p, p < 2 ^ l → ∃ g, g < 2 ^ l ∧ sq_tu l g = p ∧ sq_sg L n l (sq_tu l) g = sq_mst L n l p) ∧ ∀ g, g ≤ 2 ^ l → sq_sg L n l (sq_tu l) g ≤ n := by
  have h0 := sq_p0 hL n
  have a' : sq_p L 0 0 n = sq_p L 1 0 n + sq_p L 1 1 n := sq_p2 L (show 0 < 3 by omega) 0 n
  have b' : sq_p L 1 0 n = sq_p L 2 0 n + sq_p L 2 1 n := sq_p2 L (show 1 < 3 by omega) 0 n
  have c' : sq_p L 1 1 n = sq_p L 2 2 n + sq_p L 2 3 n := sq_p2 L (show 1 < 3 by omega) 1 n
  have hl' : l = 0 ∨ l = 1 ∨ l = 2 := by omega
  rcases hl' with rfl | rfl | rfl
  · refine ⟨fun p hp => ⟨0, by decide, ?_, ?_⟩, fun g hg => Nat.le_trans (sq_sgmono L n 0 (sq_tu 0) hg) ?_⟩
    · have : (2 : Nat) ^ 0 = 1 := rfl
      show 0 = p
      omega
    · have : (2 : Nat) ^ 0 = 1 := rfl
      rw [show p = 0 by omega]
      rfl
    · show 0 + sq_p L 0 0 n ≤ n
      omega
  · refine ⟨fun p hp => ?_, fun g hg => Nat.le_trans (sq_sgmono L n 1 (sq_tu 1) hg) ?_⟩
    · have hp' : p = 0 ∨ p = 1 := by
        have : (2 : Nat) ^ 1 = 2 := rfl
        omega
      rcases hp' with rfl | rfl
      · exact ⟨0, by decide, rfl, rfl⟩
      · refine ⟨1, by decide, rfl, ?_⟩
        show 0 + sq_p L 1 0 n = sq_p L 1 0 n
        omega
    · show 0 + sq_p L 1 0 n + sq_p L 1 1 n ≤ n
      omega
  · refine ⟨fun p hp => ?_, fun g hg => Nat.le_trans (sq_sgmono L n 2 (sq_tu 2) hg) ?_⟩
    · have hp' : p = 0 ∨ p = 1 ∨ p = 2 ∨ p = 3 := by
        have : (2 : Nat) ^ 2 = 4 := rfl
        omega
      rcases hp' with rfl | rfl | rfl | rfl
      · exact ⟨0, by decide, rfl, rfl⟩
      · refine ⟨2, by decide, rfl, ?_⟩
        show 0 + sq_p L 2 0 n + sq_p L 2 2 n = sq_p L 2 0 n + sq_p L 2 2 n
        omega
      · refine ⟨1, by decide, rfl, ?_⟩
        show 0 + sq_p L 2 0 n = sq_p L 2 0 n
        omega
      · refine ⟨3, by decide, rfl, ?_⟩
        show 0 + sq_p L 2 0 n + sq_p L 2 2 n + sq_p L 2 1 n = sq_p L 2 0 n + sq_p L 2 2 n + sq_p L 2 1 n
        omega
    · show 0 + sq_p L 2 0 n + sq_p L 2 2 n + sq_p L 2 1 n + sq_p L 2 3 n ≤ n
      omega
theorem sq_tord {L : Nat → Nat} {n l : Nat} : (∀ p, p < 2 ^ l → ∃ g, g < 2 ^ l ∧ (fun g => g) g = p ∧ sq_sg L n l (fun g => g) g = sq_st L n l p) ∧ ∀ g, g ≤ 2 ^ l → sq_sg L n l (fun g => g) g ≤ n :=
  ⟨fun p hp => ⟨p, hp, rfl, sq_sgst L n l p⟩, fun g _ => by rw [sq_sgst]; exact sq_stle L n l g⟩
section
variable {f_length f_runCount f_streamLength : Int32} {a_letters : Nat → Int32} {a_plainWords a_treeBits a_matrixBits : Nat → Int64} {a_matrixZeros : Nat → Int32} {a_letterRows a_runWords : Nat → Int64} {a_letterCounts a_groupWeights a_groupOf a_codeLengths a_codes a_codesOfLength a_lettersByCode : Nat → Int32} {a_stream : Nat → Int64} {a_sampleStarts a_sampleRanks : Nat → Int32} {a_sparseHigh a_sparseLow : Nat → Int64}
theorem sq_xpackPlain {post : SX → Prop} {L : Nat → Nat} {n : Nat} (hL : ∀ j, L j < 8) (hn : n ≤ 200) (h : ∀ a, sq_P0 L n a → post ((nI n), f_runCount, f_streamLength, (sq_l L), a, a_treeBits, a_matrixBits, a_matrixZeros, a_letterRows, a_runWords, a_letterCounts, a_groupWeights, a_groupOf, a_codeLengths, a_codes, a_codesOfLength, a_lettersByCode, a_stream, a_sampleStarts, a_sampleRanks, a_sparseHigh, a_sparseLow)) : wpX_packPlain post ((nI n), f_runCount, f_streamLength, (sq_l L), a_plainWords, a_treeBits, a_matrixBits, a_matrixZeros, a_letterRows, a_runWords, a_letterCounts, a_groupWeights, a_groupOf, a_codeLengths, a_codes, a_codesOfLength, a_lettersByCode, a_stream, a_sampleStarts, a_sampleRanks, a_sparseHigh, a_sparseLow) :=
  sq_xclear_plainWords (fun a0 ha0 => loop_0 (σ := Nat → Int64) (fun n' p a => wX_packPlain_9 post n' (nI p) (nI n) f_runCount f_streamLength (sq_l L) a a_treeBits a_matrixBits a_matrixZeros a_letterRows a_runWords a_letterCounts a_groupWeights a_groupOf a_codeLengths a_codes a_codesOfLength a_lettersByCode a_stream a_sampleStarts a_sampleRanks a_sparseHigh a_sparseLow) (fun p a => (∀ q, q < p → sq_F 3 21 a q = L q) ∧ ∀ q, p ≤ q → q < 210 → sq_F 3 21 a q = 0) n a0
    ⟨fun q hq => absurd hq (Nat.not_lt_zero q), fun q _ hq => sq_F0 (ha0 (q / 21) (by omega))⟩
    (fun n' a e => br_t (nI_le (Nat.le_refl n) (by omega)) (h a e.1))
    (fun n' p a hp e k => br_f (nI_ge hp (by omega)) ⟨vp_in_nI (by omega) (by decide), sq_v (P := fun z => wpX_putTriple__plainWords _ ((nI n), f_runCount, f_streamLength, (sq_l L), a, a_treeBits, a_matrixBits, a_matrixZeros, a_letterRows, a_runWords, a_letterCounts, a_groupWeights, a_groupOf, a_codeLengths, a_codes, a_codesOfLength, a_lettersByCode, a_stream, a_sampleStarts, a_sampleRanks, a_sparseHigh, a_sparseLow) (nI p) z) (sq_lc L (by omega)) (sq_xput_plainWords (by omega) (hL p) (e.2 p (Nat.le_refl p) (by omega)) (fun a' ha' => nm_r (nI_1 p) (k a' ⟨fun q hq => by
        rw [ha']
        by_cases z : q = p
        · rw [if_pos z, z]
        · rw [if_neg z]; exact e.1 q (by omega), fun q h1 h2 => by
        rw [ha', if_neg (by omega)]
        exact e.2 q (by omega) h2⟩)))⟩))
theorem sq_xfill_treeBits {post : Int32 → SX → Prop} {L : Nat → Nat} {n l p slot : Nat} (hL : ∀ j, L j < 8) (hn : n ≤ 200) (hl : l < 3) (hp : p < 8) (hs : slot + sq_p L l p n ≤ 768) (h0 : ∀ P, slot ≤ P → P < 768 → sq_B a_treeBits P = false)
    (h : ∀ a, sq_Fil L l p slot 768 (sq_B a_treeBits) n (sq_B a) → post (nI (slot + sq_p L l p n)) ((nI n), f_runCount, f_streamLength, (sq_l L), a_plainWords, a, a_matrixBits, a_matrixZeros, a_letterRows, a_runWords, a_letterCounts, a_groupWeights, a_groupOf, a_codeLengths, a_codes, a_codesOfLength, a_lettersByCode, a_stream, a_sampleStarts, a_sampleRanks, a_sparseHigh, a_sparseLow)) : wpX_fillNode__treeBits post ((nI n), f_runCount, f_streamLength, (sq_l L), a_plainWords, a_treeBits, a_matrixBits, a_matrixZeros, a_letterRows, a_runWords, a_letterCounts, a_groupWeights, a_groupOf, a_codeLengths, a_codes, a_codesOfLength, a_lettersByCode, a_stream, a_sampleStarts, a_sampleRanks, a_sparseHigh, a_sparseLow) (nI slot) (nI l) (nI p) :=
  loop_0 (σ := Int32 × (Nat → Int64)) (fun n' q s => wX_fillNode__treeBits_6 post (nI l) (nI p) n' s.1 (nI q) (nI n) f_runCount f_streamLength (sq_l L) a_plainWords s.2 a_matrixBits a_matrixZeros a_letterRows a_runWords a_letterCounts a_groupWeights a_groupOf a_codeLengths a_codes a_codesOfLength a_lettersByCode a_stream a_sampleStarts a_sampleRanks a_sparseHigh a_sparseLow) (fun q s => s.1 = nI (slot + sq_p L l p q) ∧ sq_Fil L l p slot 768 (sq_B a_treeBits) q (sq_B s.2)) n (nI slot, a_treeBits)
    ⟨rfl, sq_Fil0 h0⟩
    (fun n' s e => br_t (nI_le (Nat.le_refl n) (by omega)) (sq_v (P := fun z => post z ((nI n), f_runCount, f_streamLength, (sq_l L), a_plainWords, s.2, a_matrixBits, a_matrixZeros, a_letterRows, a_runWords, a_letterCounts, a_groupWeights, a_groupOf, a_codeLengths, a_codes, a_codesOfLength, a_lettersByCode, a_stream, a_sampleStarts, a_sampleRanks, a_sparseHigh, a_sparseLow)) e.1 (h s.2 e.2)))
    (fun n' q s hq e k => by
      obtain ⟨s1, a⟩ := s
      obtain ⟨e1, e2⟩ := e
      have e1' : s1 = nI (slot + sq_p L l p q) := e1
      subst e1'
      have e2' : sq_Fil L l p slot 768 (sq_B a_treeBits) q (sq_B a) := e2
      have mo := sq_pmono L l p (show q + 1 ≤ n by omega)
      have hin : vp_in (nI q) 200 := vp_in_nI (by omega) (by decide)
      have lc := sq_lc L (p := q) (by omega)
      refine br_f (nI_ge hq (by omega)) ⟨hin, ?_⟩
      have tp : sq_l L (nI q).toNatClampNeg >>> ((3 - nI l) &&& 31) = nI (L q / 2 ^ (3 - l)) := by rw [lc, sq_top _ (hL q) l hl]
      have lb : (sq_l L (nI q).toNatClampNeg >>> ((2 - nI l) &&& 31)) &&& 1 = nI (L q / 2 ^ (2 - l) % 2) := by rw [lc, sq_lbit _ (hL q) l hl]
      have d8 : L q / 2 ^ (3 - l) < 8 := Nat.lt_of_le_of_lt (Nat.div_le_self _ _) (hL q)
      refine pk_eq (L q / 2 ^ (3 - l)) p (fun z => ⟨hin, ?_⟩) (fun z => ?_) tp
      · rw [sq_pt z] at mo
        refine pk_eq (L q / 2 ^ (2 - l) % 2) 1 (fun hb => ?_) (fun hb => ?_) lb
        · exact sq_xset_treeBits (by omega) (fun a' ha' => nm_r (e' := nI (slot + sq_p L l p (q + 1))) (by rw [nI_1, sq_pt z, Nat.add_assoc]) (nm_r (nI_1 q) (k (_, a') ⟨rfl, sq_Fil1 e2' z hb ha'⟩)))
        · exact nm_r (e' := nI (slot + sq_p L l p (q + 1))) (by rw [nI_1, sq_pt z, Nat.add_assoc]) (nm_r (nI_1 q) (k (_, a) ⟨rfl, sq_Fil2 e2' z hb (by omega)⟩))
      · exact nm_r (nI_1 q) (k (_, a) ⟨by show nI _ = nI _; rw [sq_pf z], sq_Filn e2' z⟩))
theorem sq_xfill_matrixBits {post : Int32 → SX → Prop} {L : Nat → Nat} {n l p slot : Nat} (hL : ∀ j, L j < 8) (hn : n ≤ 200) (hl : l < 3) (hp : p < 8) (hs : slot + sq_p L l p n ≤ 768) (h0 : ∀ P, slot ≤ P → P < 768 → sq_B a_matrixBits P = false)
    (h : ∀ a, sq_Fil L l p slot 768 (sq_B a_matrixBits) n (sq_B a) → post (nI (slot + sq_p L l p n)) ((nI n), f_runCount, f_streamLength, (sq_l L), a_plainWords, a_treeBits, a, a_matrixZeros, a_letterRows, a_runWords, a_letterCounts, a_groupWeights, a_groupOf, a_codeLengths, a_codes, a_codesOfLength, a_lettersByCode, a_stream, a_sampleStarts, a_sampleRanks, a_sparseHigh, a_sparseLow)) : wpX_fillNode__matrixBits post ((nI n), f_runCount, f_streamLength, (sq_l L), a_plainWords, a_treeBits, a_matrixBits, a_matrixZeros, a_letterRows, a_runWords, a_letterCounts, a_groupWeights, a_groupOf, a_codeLengths, a_codes, a_codesOfLength, a_lettersByCode, a_stream, a_sampleStarts, a_sampleRanks, a_sparseHigh, a_sparseLow) (nI slot) (nI l) (nI p) :=
  loop_0 (σ := Int32 × (Nat → Int64)) (fun n' q s => wX_fillNode__matrixBits_6 post (nI l) (nI p) n' s.1 (nI q) (nI n) f_runCount f_streamLength (sq_l L) a_plainWords a_treeBits s.2 a_matrixZeros a_letterRows a_runWords a_letterCounts a_groupWeights a_groupOf a_codeLengths a_codes a_codesOfLength a_lettersByCode a_stream a_sampleStarts a_sampleRanks a_sparseHigh a_sparseLow) (fun q s => s.1 = nI (slot + sq_p L l p q) ∧ sq_Fil L l p slot 768 (sq_B a_matrixBits) q (sq_B s.2)) n (nI slot, a_matrixBits)
    ⟨rfl, sq_Fil0 h0⟩
    (fun n' s e => br_t (nI_le (Nat.le_refl n) (by omega)) (sq_v (P := fun z => post z ((nI n), f_runCount, f_streamLength, (sq_l L), a_plainWords, a_treeBits, s.2, a_matrixZeros, a_letterRows, a_runWords, a_letterCounts, a_groupWeights, a_groupOf, a_codeLengths, a_codes, a_codesOfLength, a_lettersByCode, a_stream, a_sampleStarts, a_sampleRanks, a_sparseHigh, a_sparseLow)) e.1 (h s.2 e.2)))
    (fun n' q s hq e k => by
      obtain ⟨s1, a⟩ := s
      obtain ⟨e1, e2⟩ := e
      have e1' : s1 = nI (slot + sq_p L l p q) := e1
      subst e1'
      have e2' : sq_Fil L l p slot 768 (sq_B a_matrixBits) q (sq_B a) := e2
      have mo := sq_pmono L l p (show q + 1 ≤ n by omega)
      have hin : vp_in (nI q) 200 := vp_in_nI (by omega) (by decide)
      have lc := sq_lc L (p := q) (by omega)
      refine br_f (nI_ge hq (by omega)) ⟨hin, ?_⟩
      have tp : sq_l L (nI q).toNatClampNeg >>> ((3 - nI l) &&& 31) = nI (L q / 2 ^ (3 - l)) := by rw [lc, sq_top _ (hL q) l hl]
      have lb : (sq_l L (nI q).toNatClampNeg >>> ((2 - nI l) &&& 31)) &&& 1 = nI (L q / 2 ^ (2 - l) % 2) := by rw [lc, sq_lbit _ (hL q) l hl]
      have d8 : L q / 2 ^ (3 - l) < 8 := Nat.lt_of_le_of_lt (Nat.div_le_self _ _) (hL q)
      refine pk_eq (L q / 2 ^ (3 - l)) p (fun z => ⟨hin, ?_⟩) (fun z => ?_) tp
      · rw [sq_pt z] at mo
        refine pk_eq (L q / 2 ^ (2 - l) % 2) 1 (fun hb => ?_) (fun hb => ?_) lb
        · exact sq_xset_matrixBits (by omega) (fun a' ha' => nm_r (e' := nI (slot + sq_p L l p (q + 1))) (by rw [nI_1, sq_pt z, Nat.add_assoc]) (nm_r (nI_1 q) (k (_, a') ⟨rfl, sq_Fil1 e2' z hb ha'⟩)))
        · exact nm_r (e' := nI (slot + sq_p L l p (q + 1))) (by rw [nI_1, sq_pt z, Nat.add_assoc]) (nm_r (nI_1 q) (k (_, a) ⟨rfl, sq_Fil2 e2' z hb (by omega)⟩))
      · exact nm_r (nI_1 q) (k (_, a) ⟨by show nI _ = nI _; rw [sq_pf z], sq_Filn e2' z⟩))
theorem sq_xpackTree {post : SX → Prop} {L : Nat → Nat} {n : Nat} (hL : ∀ j, L j < 8) (hn : n ≤ 200) (h : ∀ a, sq_P1 L n a → post ((nI n), f_runCount, f_streamLength, (sq_l L), a_plainWords, a, a_matrixBits, a_matrixZeros, a_letterRows, a_runWords, a_letterCounts, a_groupWeights, a_groupOf, a_codeLengths, a_codes, a_codesOfLength, a_lettersByCode, a_stream, a_sampleStarts, a_sampleRanks, a_sparseHigh, a_sparseLow)) : wpX_packTree post ((nI n), f_runCount, f_streamLength, (sq_l L), a_plainWords, a_treeBits, a_matrixBits, a_matrixZeros, a_letterRows, a_runWords, a_letterCounts, a_groupWeights, a_groupOf, a_codeLengths, a_codes, a_codesOfLength, a_lettersByCode, a_stream, a_sampleStarts, a_sampleRanks, a_sparseHigh, a_sparseLow) :=
  sq_xclear_treeBits (fun a0 ha0 => loop_0 (σ := Nat → Int64) (fun n' l a => wX_packTree_9 post n' (nI l) (nI n) f_runCount f_streamLength (sq_l L) a_plainWords a a_matrixBits a_matrixZeros a_letterRows a_runWords a_letterCounts a_groupWeights a_groupOf a_codeLengths a_codes a_codesOfLength a_lettersByCode a_stream a_sampleStarts a_sampleRanks a_sparseHigh a_sparseLow) (fun l a => (∀ m, m < l → sq_Row L n m (sq_st L n m) (sq_B a)) ∧ ∀ P, 256 * l ≤ P → P < 768 → sq_B a P = false) 3 a0
    ⟨fun m hm => absurd hm (Nat.not_lt_zero m), fun P _ hP => sq_B0 (ha0 (P / 64) (by omega))⟩
    (fun n' a e => br_t (nI_le (Nat.le_refl 3) (by decide)) (h a e.1))
    (fun n' l a hl e k => by
      obtain ⟨ord, sgn⟩ := sq_tord (L := L) (n := n) (l := l)
      obtain ⟨l2, l4⟩ := sq_2l l hl
      refine br_f (nI_ge (b := 3) hl (by decide)) (nm_r (e' := nI (256 * l)) (by rw [Nat.mul_comm]; exact pk_mul l 256) ?_)
      exact loop_0 (σ := Int32 × (Nat → Int64)) (fun n'' g s => wX_packTree_22 post (wX_packTree_9 post n') (nI l) n'' s.1 (nI g) (nI n) f_runCount f_streamLength (sq_l L) a_plainWords s.2 a_matrixBits a_matrixZeros a_letterRows a_runWords a_letterCounts a_groupWeights a_groupOf a_codeLengths a_codes a_codesOfLength a_lettersByCode a_stream a_sampleStarts a_sampleRanks a_sparseHigh a_sparseLow)
        (fun g s => s.1 = nI (256 * l + sq_sg L n l (fun g => g) g) ∧ sq_Grp L n l (fun g => g) g (sq_B s.2) ∧ sq_Up (sq_B a) (sq_B s.2) l) (2 ^ l) (nI (256 * l), a)
        ⟨rfl, ⟨fun P h1 h2 => e.2 P h1 h2, fun m hm => absurd hm (Nat.not_lt_zero m)⟩, fun _ _ => rfl⟩
        (fun n'' s f => br_t (by rw [l2]; exact nI_le (Nat.le_refl _) (by omega)) (nm_r (nI_1 l) (k s.2 ⟨fun m hm => by
            by_cases z : m = l
            · subst z
              exact sq_RowG hL hl f.2.1 ord
            · exact sq_RowUp f.2.2 (by omega) (fun q hq => by
                have a1 := sq_sten L n m (L q / 2 ^ (3 - m))
                have a2 := sq_pmono L m (L q / 2 ^ (3 - m)) (Nat.le_of_lt hq)
                omega) (e.1 m (by omega)), fun P h1 h2 => f.2.1.1 P (by
                  have := sgn (2 ^ l) (Nat.le_refl _)
                  omega) h2⟩)))
        (fun n'' g s hg f c => by
          obtain ⟨s1, b⟩ := s
          obtain ⟨f1, f2, f3⟩ := f
          have f1' : s1 = nI (256 * l + sq_sg L n l (fun g => g) g) := f1
          subst f1'
          have q1 := sgn (g + 1) hg
          have q1' : sq_sg L n l (fun g => g) g + sq_p L l g n ≤ n := q1
          exact br_f (by rw [l2]; exact nI_ge hg (by omega)) (sq_xfill_treeBits hL hn hl (by omega) (by omega) f2.1 (fun a' ha' => nm_r (nI_1 g) (c (_, a') ⟨by show nI _ = nI _; exact congrArg nI (by
            show _ = 256 * l + (sq_sg L n l (fun g => g) g + sq_p L l g n)
            omega), sq_Grps f2 ha', fun P hP => (ha'.1 P (by omega)).trans (f3 P hP)⟩))))))
theorem sq_xpackMatrix {post : SX → Prop} {L : Nat → Nat} {n : Nat} (hL : ∀ j, L j < 8) (hn : n ≤ 200) (h : ∀ a z, sq_P2 L n a z → post ((nI n), f_runCount, f_streamLength, (sq_l L), a_plainWords, a_treeBits, a, z, a_letterRows, a_runWords, a_letterCounts, a_groupWeights, a_groupOf, a_codeLengths, a_codes, a_codesOfLength, a_lettersByCode, a_stream, a_sampleStarts, a_sampleRanks, a_sparseHigh, a_sparseLow)) : wpX_packMatrix post ((nI n), f_runCount, f_streamLength, (sq_l L), a_plainWords, a_treeBits, a_matrixBits, a_matrixZeros, a_letterRows, a_runWords, a_letterCounts, a_groupWeights, a_groupOf, a_codeLengths, a_codes, a_codesOfLength, a_lettersByCode, a_stream, a_sampleStarts, a_sampleRanks, a_sparseHigh, a_sparseLow) :=
  sq_xclear_matrixBits (fun a0 ha0 => loop_0 (σ := (Nat → Int64) × (Nat → Int32)) (fun n' l s => wX_packMatrix_9 post n' (nI l) (nI n) f_runCount f_streamLength (sq_l L) a_plainWords a_treeBits s.1 s.2 a_letterRows a_runWords a_letterCounts a_groupWeights a_groupOf a_codeLengths a_codes a_codesOfLength a_lettersByCode a_stream a_sampleStarts a_sampleRanks a_sparseHigh a_sparseLow) (fun l s => (∀ m, m < l → sq_Row L n m (sq_mst L n m) (sq_B s.1) ∧ s.2 m = nI (n - sq_o (sq_B s.1) m n)) ∧ ∀ P, 256 * l ≤ P → P < 768 → sq_B s.1 P = false) 3 (a0, a_matrixZeros)
    ⟨fun m hm => absurd hm (Nat.not_lt_zero m), fun P _ hP => sq_B0 (ha0 (P / 64) (by omega))⟩
    (fun n' s e => br_t (nI_le (Nat.le_refl 3) (by decide)) (h s.1 s.2 e.1))
    (fun n' l s0 hl e k => by
      obtain ⟨a, z⟩ := s0
      obtain ⟨ord, sgn⟩ := sq_mord (L := L) (n := n) hL hl
      obtain ⟨l2, l4⟩ := sq_2l l hl
      have e1 : ∀ m, m < l → sq_Row L n m (sq_mst L n m) (sq_B a) ∧ z m = nI (n - sq_o (sq_B a) m n) := e.1
      have e2 : ∀ P, 256 * l ≤ P → P < 768 → sq_B a P = false := e.2
      refine br_f (nI_ge (b := 3) hl (by decide)) (nm_r (e' := nI (256 * l)) (by rw [Nat.mul_comm]; exact pk_mul l 256) ?_)
      exact loop_0 (σ := Int32 × (Nat → Int64)) (fun n'' g s => wX_packMatrix_22 post (wX_packMatrix_9 post n') (nI l) n'' s.1 (nI g) (nI n) f_runCount f_streamLength (sq_l L) a_plainWords a_treeBits s.2 z a_letterRows a_runWords a_letterCounts a_groupWeights a_groupOf a_codeLengths a_codes a_codesOfLength a_lettersByCode a_stream a_sampleStarts a_sampleRanks a_sparseHigh a_sparseLow)
        (fun g s => s.1 = nI (256 * l + sq_sg L n l (sq_tu l) g) ∧ sq_Grp L n l (sq_tu l) g (sq_B s.2) ∧ sq_Up (sq_B a) (sq_B s.2) l) (2 ^ l) (nI (256 * l), a)
        ⟨rfl, ⟨fun P h1 h2 => e2 P h1 h2, fun m hm => absurd hm (Nat.not_lt_zero m)⟩, fun _ _ => rfl⟩
        (fun n'' s f => br_t (by rw [l2]; exact nI_le (Nat.le_refl _) (by omega)) (sq_xrow_matrixBits rfl (by omega) ⟨vp_in_nI hl (by decide), nm_r (e' := upd z l (nI (n - sq_o (sq_B s.2) l n))) (by rw [nI_clamp (by omega), pk_sub (sq_ole _ _ _)]) (nm_r (nI_1 l) (k (s.2, _) ⟨fun m hm => by
            show sq_Row L n m (sq_mst L n m) (sq_B s.2) ∧ upd z l (nI (n - sq_o (sq_B s.2) l n)) m = nI (n - sq_o (sq_B s.2) m n)
            by_cases y : m = l
            · subst y
              exact ⟨sq_RowG hL hl f.2.1 ord, pk_us⟩
            · have o1 : sq_o (sq_B s.2) m n = sq_o (sq_B a) m n := sq_ccg n (fun t ht => f.2.2 _ (by omega))
              rw [pk_un y, o1]
              refine ⟨sq_RowUp f.2.2 (by omega) (fun q hq => ?_) (e1 m (by omega)).1, (e1 m (by omega)).2⟩
              have a1 := sq_mle hL n (show m < 3 by omega) (sq_pl2 m (by omega) (L q) (hL q))
              have a2 := sq_pmono L m (L q / 2 ^ (3 - m)) (Nat.le_of_lt hq)
              omega, fun P h1 h2 => f.2.1.1 P (by
                  have := sgn (2 ^ l) (Nat.le_refl _)
                  omega) h2⟩))⟩))
        (fun n'' g s hg f c => by
          obtain ⟨s1, b⟩ := s
          obtain ⟨f1, f2, f3⟩ := f
          have f1' : s1 = nI (256 * l + sq_sg L n l (sq_tu l) g) := f1
          subst f1'
          have q1 := sgn (g + 1) hg
          have q1' : sq_sg L n l (sq_tu l) g + sq_p L l (sq_tu l g) n ≤ n := q1
          have t4 := sq_tu4 l hl g hg
          exact br_f (by rw [l2]; exact nI_ge hg (by omega)) (sq_xturned hl hg (sq_xfill_matrixBits hL hn hl (by omega) (by omega) f2.1 (fun a' ha' => nm_r (nI_1 g) (c (_, a') ⟨by show nI _ = nI _; exact congrArg nI (by
            show _ = 256 * l + (sq_sg L n l (sq_tu l) g + sq_p L l (sq_tu l g) n)
            omega), sq_Grps f2 ha', fun P hP => (ha'.1 P (by omega)).trans (f3 P hP)⟩)))))))
theorem sq_xpackRows {post : SX → Prop} {L : Nat → Nat} {n : Nat} (hL : ∀ j, L j < 8) (hn : n ≤ 200) (h : ∀ a, sq_P3 L n a → post ((nI n), f_runCount, f_streamLength, (sq_l L), a_plainWords, a_treeBits, a_matrixBits, a_matrixZeros, a, a_runWords, a_letterCounts, a_groupWeights, a_groupOf, a_codeLengths, a_codes, a_codesOfLength, a_lettersByCode, a_stream, a_sampleStarts, a_sampleRanks, a_sparseHigh, a_sparseLow)) : wpX_packRows post ((nI n), f_runCount, f_streamLength, (sq_l L), a_plainWords, a_treeBits, a_matrixBits, a_matrixZeros, a_letterRows, a_runWords, a_letterCounts, a_groupWeights, a_groupOf, a_codeLengths, a_codes, a_codesOfLength, a_lettersByCode, a_stream, a_sampleStarts, a_sampleRanks, a_sparseHigh, a_sparseLow) :=
  sq_xclear_letterRows (fun a0 ha0 => loop_0 (σ := Nat → Int64) (fun n' p a => wX_packRows_9 post n' (nI p) (nI n) f_runCount f_streamLength (sq_l L) a_plainWords a_treeBits a_matrixBits a_matrixZeros a a_runWords a_letterCounts a_groupWeights a_groupOf a_codeLengths a_codes a_codesOfLength a_lettersByCode a_stream a_sampleStarts a_sampleRanks a_sparseHigh a_sparseLow) (fun p a => ∀ l, l < 8 → ∀ q, q < 256 → sq_B a (256 * l + q) = decide (q < p ∧ L q = l)) n a0
    (fun l hl q hq => by rw [sq_B0 (ha0 _ (by omega)), decide_eq_false (by omega)])
    (fun n' a e => br_t (nI_le (Nat.le_refl n) (by omega)) (h a (fun l hl p hp => by
      rw [e l hl p (by omega)]
      exact decide_eq_decide.mpr ⟨fun z => z.2, fun z => ⟨hp, z⟩⟩)))
    (fun n' p a hp e k => by
      have h8 := hL p
      have g : sq_l L (nI p).toNatClampNeg * 256 + nI p = nI (256 * L p + p) := by
        rw [sq_lc L (by omega), show nI (L p) * 256 = nI (L p * 256) from pk_mul (L p) 256, nI_add]
        exact congrArg nI (by omega)
      exact br_f (nI_ge hp (by omega)) ⟨vp_in_nI (by omega) (by decide), sq_v (P := fun z => wpX_setBit__letterRows _ ((nI n), f_runCount, f_streamLength, (sq_l L), a_plainWords, a_treeBits, a_matrixBits, a_matrixZeros, a, a_runWords, a_letterCounts, a_groupWeights, a_groupOf, a_codeLengths, a_codes, a_codesOfLength, a_lettersByCode, a_stream, a_sampleStarts, a_sampleRanks, a_sparseHigh, a_sparseLow) z) g (sq_xset_letterRows (by omega) (fun a' ha' => nm_r (nI_1 p) (k a' (fun l hl q hq => by
        rw [ha', e l hl q hq, ← Bool.decide_or]
        exact decide_eq_decide.mpr (by
          constructor
          · rintro (z | z)
            · exact ⟨by omega, z.2⟩
            · have : l = L p := by omega
              have : q = p := by omega
              subst this
              exact ⟨by omega, by omega⟩
          · rintro ⟨z1, z2⟩
            by_cases y : q = p
            · subst y
              exact Or.inr (by omega)
            · exact Or.inl ⟨by omega, z2⟩)))))⟩))
theorem sq_xputRun {post : SX → Prop} {r s v : Nat} (hr : r < 200) (hv : v < 8) (hs : s < 256) (hz : sq_F 11 5 a_runWords r = 0) (h : ∀ a', (∀ k, sq_F 11 5 a' k = if k = r then v * 256 + s else sq_F 11 5 a_runWords k) → post (f_length, (nI (r + 1)), f_streamLength, a_letters, a_plainWords, a_treeBits, a_matrixBits, a_matrixZeros, a_letterRows, a', a_letterCounts, a_groupWeights, a_groupOf, a_codeLengths, a_codes, a_codesOfLength, a_lettersByCode, a_stream, a_sampleStarts, a_sampleRanks, a_sparseHigh, a_sparseLow)) : wpX_putRun post (f_length, (nI r), f_streamLength, a_letters, a_plainWords, a_treeBits, a_matrixBits, a_matrixZeros, a_letterRows, a_runWords, a_letterCounts, a_groupWeights, a_groupOf, a_codeLengths, a_codes, a_codesOfLength, a_lettersByCode, a_stream, a_sampleStarts, a_sampleRanks, a_sparseHigh, a_sparseLow) (nI v) (nI s) := by
  have e1 : (nI v).toInt64 <<< ((8 : Int32).toInt64 &&& 63) ||| (nI s).toInt64 = lN (v * 256 + s) := by
    have a1 : (nI v).toInt64 <<< ((8 : Int32).toInt64 &&& 63) = lN (v * 256) := sq_putw (k := 8) (by omega) (by decide)
    rw [a1, nI_l (by omega)]
    exact g_or (k := 8) (by decide) hs (by omega)
  have e2 : vp_updL a_runWords (nI r / 5).toNatClampNeg (a_runWords (nI r / 5).toNatClampNeg ||| lN (v * 256 + s) <<< (((nI r - nI r / 5 * 5) * 11).toInt64 &&& 63)) = vp_updL a_runWords (r / 5) (a_runWords (r / 5) ||| lN ((v * 256 + s) * 2 ^ (11 * (r % 5)))) := by
    rw [sq_r5 (by omega), sq_d5 (by omega), nI_clamp (by omega), wb_shl _ (by omega)]
  have hin : vp_in (nI r / 5) 40 := sq_v (P := fun z => vp_in z 40) (sq_d5 (by omega)) (vp_in_nI (by omega) (by decide))
  refine nm_r e1 ⟨by decide, hin, by decide, hin, nm_r e2 (nm_r (nI_1 r) (h _ (fun k => ?_)))⟩
  exact sq_Fput _ (by decide) (by decide) (by omega) hz k
theorem sq_xpackRuns {post : SX → Prop} {L : Nat → Nat} {n : Nat} (hL : ∀ j, L j < 8) (hn : n ≤ 200) (h : ∀ a c, sq_P4 L n a c → post ((nI n), c, f_streamLength, (sq_l L), a_plainWords, a_treeBits, a_matrixBits, a_matrixZeros, a_letterRows, a, a_letterCounts, a_groupWeights, a_groupOf, a_codeLengths, a_codes, a_codesOfLength, a_lettersByCode, a_stream, a_sampleStarts, a_sampleRanks, a_sparseHigh, a_sparseLow)) : wpX_packRuns post ((nI n), f_runCount, f_streamLength, (sq_l L), a_plainWords, a_treeBits, a_matrixBits, a_matrixZeros, a_letterRows, a_runWords, a_letterCounts, a_groupWeights, a_groupOf, a_codeLengths, a_codes, a_codesOfLength, a_lettersByCode, a_stream, a_sampleStarts, a_sampleRanks, a_sparseHigh, a_sparseLow) :=
  sq_xclear_runWords (fun a0 ha0 => pk_loop (σ := Int32 × Int32 × (Nat → Int64)) (fun n' p s => wX_packRuns_16 post n' s.1 (nI p) (nI n) s.2.1 f_streamLength (sq_l L) a_plainWords a_treeBits a_matrixBits a_matrixZeros a_letterRows s.2.2 a_letterCounts a_groupWeights a_groupOf a_codeLengths a_codes a_codesOfLength a_lettersByCode a_stream a_sampleStarts a_sampleRanks a_sparseHigh a_sparseLow)
    (fun p x => ∃ (s r : Nat) (st : Nat → Nat), x.1 = nI s ∧ x.2.1 = nI r ∧ sq_RI L x.2.2 r s st ∧ (∀ k, r ≤ k → k < 200 → sq_F 11 5 x.2.2 k = 0) ∧ 1 ≤ p ∧ (p ≤ n → s < p ∧ (∀ q, s ≤ q → q < p → L q = L s) ∧ sq_c (sq_ch L) p = r + 1) ∧ (n < p → s = n ∧ sq_c (sq_ch L) n = r)) (n + 1) 1 (0, 0, a0) (by omega)
    ⟨0, 0, fun _ => 0, rfl, rfl, ⟨rfl, rfl, fun k hk => absurd hk (Nat.not_lt_zero k)⟩, fun k _ hk => sq_F0 (ha0 _ (by omega)), Nat.le_refl 1, fun _ => ⟨by omega, fun q h1 h2 => by rw [show q = 0 by omega], rfl⟩, fun h1 => by
      have : n = 0 := by omega
      subst this
      exact ⟨rfl, rfl⟩⟩
    (fun n' x e => by
      obtain ⟨s, r, st, e1, e2, e3, e4, e5, e6, e7⟩ := e
      obtain ⟨y1, y2⟩ := e7 (by omega)
      subst y1
      exact br_t (nI_lt (by omega) (by omega)) (h x.2.2 x.2.1 ⟨r, st, e2, y2.symm, e3⟩))
    (fun n' p x hp e k => by
      obtain ⟨x1, x2, a⟩ := x
      obtain ⟨s, r, st, e1, e2, e3, e4, e5, e6, e7⟩ := e
      have e1' : x1 = nI s := e1
      have e2' : x2 = nI r := e2
      have e3' : sq_RI L a r s st := e3
      have e4' : ∀ k, r ≤ k → k < 200 → sq_F 11 5 a k = 0 := e4
      subst e1' e2'
      obtain ⟨y1, y2, y3⟩ := e6 (by omega)
      have rs := sq_RIr e3' r (Nat.le_refl r)
      rw [e3'.2.1] at rs
      have l8 := hL s
      have put : ∀ (Q : SX → Prop), (∀ a', (∀ k, sq_F 11 5 a' k = if k = r then L s * 256 + (p - s) else sq_F 11 5 a k) → Q ((nI n), (nI (r + 1)), f_streamLength, (sq_l L), a_plainWords, a_treeBits, a_matrixBits, a_matrixZeros, a_letterRows, a', a_letterCounts, a_groupWeights, a_groupOf, a_codeLengths, a_codes, a_codesOfLength, a_lettersByCode, a_stream, a_sampleStarts, a_sampleRanks, a_sparseHigh, a_sparseLow)) → vp_in (nI s) 200 ∧ wpX_putRun Q ((nI n), (nI r), f_streamLength, (sq_l L), a_plainWords, a_treeBits, a_matrixBits, a_matrixZeros, a_letterRows, a, a_letterCounts, a_groupWeights, a_groupOf, a_codeLengths, a_codes, a_codesOfLength, a_lettersByCode, a_stream, a_sampleStarts, a_sampleRanks, a_sparseHigh, a_sparseLow) (sq_l L (nI s).toNatClampNeg) (nI p - nI s) := by
        intro Q hQ
        refine ⟨vp_in_nI (by omega) (by decide), ?_⟩
        rw [sq_lc L (by omega), pk_sub (by omega)]
        exact sq_xputRun (by omega) l8 (by omega) (e4' r (Nat.le_refl r) (by omega)) hQ
      refine br_f (nI_nlt (by omega) (by omega)) (pk_eq p n (fun z => ?_) (fun z => ?_))
      · refine put _ (fun a' ha' => nm_r (nI_1 p) (k (_, _, a') ⟨p, r + 1, _, rfl, rfl, sq_RIs e3' y1 y2 ha', fun j h1 h2 => ?_, by omega, fun _ => by omega, fun _ => ⟨z, by rw [← z]; exact y3⟩⟩))
        show sq_F 11 5 a' j = 0
        rw [ha', if_neg (by omega)]
        exact e4' j (by omega) h2
      · have lp8 := hL p
        refine ⟨vp_in_nI (by omega) (by decide), vp_in_nI (by omega) (by decide), pk_eq (L p) (L s) (fun w => ?_) (fun w => ?_) (sq_lc L (by omega)) (sq_lc L (by omega))⟩
        · have c0 : sq_ch L p = false := decide_eq_false (by
            have := y2 (p - 1) (by omega) (by omega)
            omega)
          exact nm_r (nI_1 p) (k (_, _, a) ⟨s, r, st, rfl, rfl, e3', e4', by omega, fun _ => ⟨by omega, fun q h1 h2 => by
            by_cases y : q = p
            · rw [y]; exact w
            · exact y2 q h1 (by omega), by rw [sq_cf c0]; exact y3⟩, fun _ => by omega⟩)
        · have c1 : sq_ch L p = true := decide_eq_true (by
            have := y2 (p - 1) (by omega) (by omega)
            omega)
          refine put _ (fun a' ha' => nm_r (nI_1 p) (k (_, _, a') ⟨p, r + 1, _, rfl, rfl, sq_RIs e3' y1 y2 ha', fun j h1 h2 => ?_, by omega, fun _ => ⟨by omega, fun q h1 h2 => by rw [show q = p by omega], by rw [sq_ct c1, y3]⟩, fun _ => by omega⟩))
          show sq_F 11 5 a' j = 0
          rw [ha', if_neg (by omega)]
          exact e4' j (by omega) h2))
theorem sq_xpackSparse {post : SX → Prop} {L : Nat → Nat} {n : Nat} (hL : ∀ j, L j < 8) (hn : n ≤ 200) (h : ∀ a b, sq_P6 L n a b → post ((nI n), f_runCount, f_streamLength, (sq_l L), a_plainWords, a_treeBits, a_matrixBits, a_matrixZeros, a_letterRows, a_runWords, a_letterCounts, a_groupWeights, a_groupOf, a_codeLengths, a_codes, a_codesOfLength, a_lettersByCode, a_stream, a_sampleStarts, a_sampleRanks, a, b)) : wpX_packSparse post ((nI n), f_runCount, f_streamLength, (sq_l L), a_plainWords, a_treeBits, a_matrixBits, a_matrixZeros, a_letterRows, a_runWords, a_letterCounts, a_groupWeights, a_groupOf, a_codeLengths, a_codes, a_codesOfLength, a_lettersByCode, a_stream, a_sampleStarts, a_sampleRanks, a_sparseHigh, a_sparseLow) :=
  sq_xclear_sparseHigh (fun a0 ha0 => sq_xclear_sparseLow (fun b0 hb0 => loop_0 (σ := Int32 × (Nat → Int64) × (Nat → Int64)) (fun n' l s => wX_packSparse_18 post n' s.1 (nI l) (nI n) f_runCount f_streamLength (sq_l L) a_plainWords a_treeBits a_matrixBits a_matrixZeros a_letterRows a_runWords a_letterCounts a_groupWeights a_groupOf a_codeLengths a_codes a_codesOfLength a_lettersByCode a_stream a_sampleStarts a_sampleRanks s.2.1 s.2.2)
    (fun l s => s.1 = nI (sq_k L n (256 * l)) ∧ sq_SI L n (256 * l) (sq_B s.2.1) s.2.2) 8 (0, a0, b0)
    ⟨by show 0 = nI (sq_k L n 0); rw [sq_k0]; rfl, sq_SI0 (fun P hP => sq_B0 (ha0 _ (by omega))) (fun x hx => sq_F0 (hb0 _ (by omega)))⟩
    (fun n' s e => br_t (nI_le (Nat.le_refl 8) (by decide)) (h s.2.1 s.2.2 (sq_SIe hL hn e.2)))
    (fun n' l s hl e k => by
      obtain ⟨s1, a, b⟩ := s
      obtain ⟨e1, e2⟩ := e
      have e1' : s1 = nI (sq_k L n (256 * l)) := e1
      have e2' : sq_SI L n (256 * l) (sq_B a) b := e2
      subst e1'
      refine br_f (nI_ge (b := 8) hl (by decide)) ?_
      exact loop_0 (σ := Int32 × (Nat → Int64) × (Nat → Int64)) (fun n'' p s => wX_packSparse_26 post (wX_packSparse_18 post n') (nI l) n'' s.1 (nI p) (nI n) f_runCount f_streamLength (sq_l L) a_plainWords a_treeBits a_matrixBits a_matrixZeros a_letterRows a_runWords a_letterCounts a_groupWeights a_groupOf a_codeLengths a_codes a_codesOfLength a_lettersByCode a_stream a_sampleStarts a_sampleRanks s.2.1 s.2.2)
        (fun p s => s.1 = nI (sq_k L n (256 * l + p)) ∧ sq_SI L n (256 * l + p) (sq_B s.2.1) s.2.2) n (nI (sq_k L n (256 * l)), a, b) ⟨rfl, e2'⟩
        (fun n'' s f => by
          obtain ⟨s1, c, d⟩ := s
          obtain ⟨f1, f2⟩ := f
          have f1' : s1 = nI (sq_k L n (256 * l + n)) := f1
          have f2' : sq_SI L n (256 * l + n) (sq_B c) d := f2
          subst f1'
          have up : ∀ q, q < n → 256 * L q + q < 256 * (l + 1) → 256 * L q + q < 256 * l + n := fun q hq hh => by omega
          have ke : sq_k L n (256 * (l + 1)) = sq_k L n (256 * l + n) := sq_ccg n (fun q hq => decide_eq_decide.mpr ⟨up q hq, fun z => by omega⟩)
          exact br_t (nI_le (Nat.le_refl n) (by omega)) (nm_r (nI_1 l) (k (_, c, d) ⟨by show nI _ = nI _; rw [ke], sq_SIn f2' (by omega) up⟩)))
        (fun n'' p s hp f c => by
          obtain ⟨s1, a1, b1⟩ := s
          obtain ⟨f1, f2⟩ := f
          have f1' : s1 = nI (sq_k L n (256 * l + p)) := f1
          have f2' : sq_SI L n (256 * l + p) (sq_B a1) b1 := f2
          subst f1'
          have l8 := hL p
          have g : nI l * 256 + nI p = nI (256 * l + p) := by
            rw [show nI l * 256 = nI (l * 256) from pk_mul l 256, nI_add]
            exact congrArg nI (by omega)
          refine br_f (nI_ge hp (by omega)) ⟨vp_in_nI (by omega) (by decide), pk_eq (L p) l (fun z => ?_) (fun z => ?_) (sq_lc L (by omega))⟩
          · subst z
            have kt := sq_kt (L := L) (q := p) n (by omega) hp
            have kl := sq_kle L n (256 * L p + p + 1)
            refine nm_r g ⟨by decide, ?_⟩
            rw [sq_d8 (by omega), nI_add]
            refine sq_xset_sparseHigh (by omega) (fun a2 ha2 => ⟨by decide, ?_⟩)
            rw [← sq_d8 (by omega), sq_r8 (by omega), show (256 * L p + p) % 8 = p % 8 by omega]
            exact sq_xput_sparseLow (by omega) (by omega) (f2'.2.2 _ (Nat.le_refl _) (by omega)) (fun b2 hb2 => nm_r (e' := nI (sq_k L n (256 * L p + (p + 1)))) (by rw [nI_1, ← Nat.add_assoc, kt]) (nm_r (nI_1 p) (c (_, a2, b2) ⟨rfl, sq_SIs hn hp f2' ha2 hb2⟩)))
          · have nk : ∀ q, q < n → 256 * L q + q ≠ 256 * l + p := fun q hq ee => by
              have : q = p := by omega
              subst this
              omega
            have ke := sq_kf n nk
            exact nm_r (nI_1 p) (c (_, a1, b1) ⟨by show nI _ = nI _; rw [← Nat.add_assoc, ke], sq_SIn f2' (by omega) (fun q hq hh => by
              have := nk q hq
              omega)⟩))))) 
end
end
section
-- Part 18: the code: counts, joins, words, stream (written by wip/whole/gen18.py)
def sq_op : Option Nat → Int32
  | none => -1
  | some g => nI g
theorem sq_opeq {e : Option Nat} {g : Nat} (hg : g < 2 ^ 31) (he : ∀ m, e = some m → m < 2 ^ 31) : nI g = sq_op e ↔ e = some g := by
  cases e with
  | none => exact ⟨fun z => absurd z (sq_m1ne hg), fun z => absurd z (by simp)⟩
  | some m =>
    show nI g = nI m ↔ some m = some g
    rw [nI_eq hg (he m rfl)]
    exact ⟨fun z => by rw [z], fun z => (Option.some.inj z).symm⟩
theorem sq_li_skip {w : Nat → Nat} {e : Option Nat} {g : Nat} (h : e = some g ∨ w g = 0) : sq_li w e (g + 1) = sq_li w e g := by
  rw [sq_li]
  cases sq_li w e g with
  | none => exact if_pos h
  | some m => exact if_pos h
theorem sq_li_new {w : Nat → Nat} {e : Option Nat} {g : Nat} (h : ¬ (e = some g ∨ w g = 0)) (hn : sq_li w e g = none) : sq_li w e (g + 1) = some g := by
  rw [sq_li, hn]
  exact if_neg h
theorem sq_li_keep {w : Nat → Nat} {e : Option Nat} {g m : Nat} (hn : sq_li w e g = some m) (hl : ¬ w g < w m) : sq_li w e (g + 1) = some m := by
  rw [sq_li, hn]
  show (if e = some g ∨ w g = 0 then some m else if w g < w m then some g else some m) = some m
  rw [if_neg hl]
  split <;> rfl
theorem sq_li_less {w : Nat → Nat} {e : Option Nat} {g m : Nat} (h : ¬ (e = some g ∨ w g = 0)) (hn : sq_li w e g = some m) (hl : w g < w m) : sq_li w e (g + 1) = some g := by
  rw [sq_li, hn]
  show (if e = some g ∨ w g = 0 then some m else if w g < w m then some g else some m) = some g
  rw [if_neg h, if_pos hl]
theorem sq_li8 {w : Nat → Nat} {e : Option Nat} {i m : Nat} (h : sq_li w e i = some m) : m < i := by
  have := sq_lis w e i
  rw [h] at this
  exact this.1
theorem sq_m1 (x : Int32) : x + (-1) = x - 1 := (Int32.sub_eq_add_neg x 1).symm
theorem sq_sl : ∀ d, d < 8 → ((nI d &&& 31).toBitVec.smod 32).toNat = d := by decide +kernel
theorem sq_cbit {w d : Nat} (hw : w < 2 ^ 31) (hd : d < 8) : (nI w >>> (nI d &&& 31)) &&& 1 = nI (w.testBit d).toNat := by
  rw [pk_shrN hw _ d (sq_sl d hd), pk_andN (Nat.lt_of_le_of_lt (Nat.div_le_self _ _) (by omega)) 1 (by decide), Nat.toNat_testBit]
theorem sq_wle {cnt len gr w : Nat → Nat} {j n : Nat} (H : sq_HI cnt len gr w j) (hc : sq_s cnt 8 = n) : ∀ g, g < 8 → w g ≤ n := by
  intro g hg
  rw [H.2.1 g hg, ← hc]
  refine sq_sle 8 (fun l _ => ?_)
  split <;> omega
section
variable {f_length f_runCount f_streamLength : Int32} {a_letters : Nat → Int32} {a_plainWords a_treeBits a_matrixBits : Nat → Int64} {a_matrixZeros : Nat → Int32} {a_letterRows a_runWords : Nat → Int64} {a_letterCounts a_groupWeights a_groupOf a_codeLengths a_codes a_codesOfLength a_lettersByCode : Nat → Int32} {a_stream : Nat → Int64} {a_sampleStarts a_sampleRanks : Nat → Int32} {a_sparseHigh a_sparseLow : Nat → Int64}
theorem sq_xcount {post : SX → Prop} {L : Nat → Nat} {n : Nat} (hL : ∀ j, L j < 8) (hn : n ≤ 200) (h : ∀ c, (∀ l, l < 8 → c l = nI (sq_rk L l n)) → post ((nI n), f_runCount, f_streamLength, (sq_l L), a_plainWords, a_treeBits, a_matrixBits, a_matrixZeros, a_letterRows, a_runWords, c, a_groupWeights, a_groupOf, a_codeLengths, a_codes, a_codesOfLength, a_lettersByCode, a_stream, a_sampleStarts, a_sampleRanks, a_sparseHigh, a_sparseLow)) : wpX_countLetters post ((nI n), f_runCount, f_streamLength, (sq_l L), a_plainWords, a_treeBits, a_matrixBits, a_matrixZeros, a_letterRows, a_runWords, a_letterCounts, a_groupWeights, a_groupOf, a_codeLengths, a_codes, a_codesOfLength, a_lettersByCode, a_stream, a_sampleStarts, a_sampleRanks, a_sparseHigh, a_sparseLow) :=
  loop_0 (σ := Nat → Int32) (fun n' i c => wX_countLetters_2 post (nI n) f_runCount f_streamLength n' (nI i) (sq_l L) a_plainWords a_treeBits a_matrixBits a_matrixZeros a_letterRows a_runWords c a_groupWeights a_groupOf a_codeLengths a_codes a_codesOfLength a_lettersByCode a_stream a_sampleStarts a_sampleRanks a_sparseHigh a_sparseLow) (fun i c => ∀ l, l < i → c l = nI 0) 8 a_letterCounts (fun l hl => absurd hl (Nat.not_lt_zero l))
    (fun n' c e => br_t (nI_le (Nat.le_refl 8) (by decide)) (loop_0 (σ := Nat → Int32) (fun n' p c => wX_countLetters_23 post (nI n) f_runCount f_streamLength n' (nI p) (sq_l L) a_plainWords a_treeBits a_matrixBits a_matrixZeros a_letterRows a_runWords c a_groupWeights a_groupOf a_codeLengths a_codes a_codesOfLength a_lettersByCode a_stream a_sampleStarts a_sampleRanks a_sparseHigh a_sparseLow) (fun p c => ∀ l, l < 8 → c l = nI (sq_rk L l p)) n c (fun l hl => e l hl)
      (fun n' c f => br_t (nI_le (Nat.le_refl n) (by omega)) (h c f))
      (fun n' p c hp f k => by
        have l8 := hL p
        have lc := sq_lc L (p := p) (by omega)
        have hin : vp_in (sq_l L (nI p).toNatClampNeg) 8 := by rw [lc]; exact vp_in_nI l8 (by decide)
        refine br_f (nI_ge hp (by omega)) ⟨vp_in_nI (by omega) (by decide), hin, hin, nm_r (e' := upd c (L p) (nI (sq_rk L (L p) p + 1))) ?_ (nm_r (nI_1 p) (k _ (fun l hl => ?_)))⟩
        · rw [lc, nI_clamp (by omega), f _ l8, nI_1]
        · by_cases z : l = L p
          · rw [z, pk_us, sq_rkt rfl]
          · rw [pk_un z, sq_rkf (fun y => z y.symm)]; exact f l hl)))
    (fun n' i c hi e k => br_f (nI_ge (b := 8) hi (by decide)) ⟨vp_in_nI hi (by decide), nm_r (e' := upd c i (nI 0)) (by rw [nI_clamp (by omega)]; rfl) (nm_r (nI_1 i) (k _ (fun l hl => by
      by_cases z : l = i
      · rw [z, pk_us]
      · rw [pk_un z]; exact e l (by omega))))⟩)
theorem sq_xlight {post : Int32 → Prop} {w : Nat → Nat} {e : Option Nat} (hw : ∀ g, g < 8 → a_groupWeights g = nI (w g) ∧ w g ≤ 200) (he : ∀ m, e = some m → m < 8) (h : post (sq_op (sq_li w e 8))) : wpX_lightestGroup post (f_length, f_runCount, f_streamLength, a_letters, a_plainWords, a_treeBits, a_matrixBits, a_matrixZeros, a_letterRows, a_runWords, a_letterCounts, a_groupWeights, a_groupOf, a_codeLengths, a_codes, a_codesOfLength, a_lettersByCode, a_stream, a_sampleStarts, a_sampleRanks, a_sparseHigh, a_sparseLow) (sq_op e) :=
  loop_0 (σ := Int32) (fun n' g x2 => wX_lightestGroup_4 post (sq_op e) f_length f_runCount f_streamLength a_letters a_plainWords a_treeBits a_matrixBits a_matrixZeros a_letterRows a_runWords a_letterCounts a_groupWeights a_groupOf a_codeLengths a_codes a_codesOfLength a_lettersByCode a_stream a_sampleStarts a_sampleRanks a_sparseHigh a_sparseLow n' x2 (nI g)) (fun g x2 => x2 = sq_op (sq_li w e g)) 8 (-1) rfl
    (fun n' x2 z => br_t (nI_le (Nat.le_refl 8) (by decide)) (sq_v (P := post) z h))
    (fun n' g x2 hg z k => by
      subst z
      have cl : (nI g).toNatClampNeg = g := nI_clamp (by omega)
      obtain ⟨w1, w2⟩ := hw g hg
      have oe := sq_opeq (e := e) (g := g) (by omega) (fun m hm => by have := he m hm; omega)
      have hin : vp_in (nI g) 8 := vp_in_nI hg (by decide)
      refine br_f (nI_ge (b := 8) hg (by decide)) (br_c (fun z => ?_) (fun z => ⟨hin, ?_⟩))
      · exact nm_r (nI_1 g) (k _ (congrArg sq_op (sq_li_skip (Or.inl (oe.mp z))).symm))
      · refine pk_eq (w g) 0 (fun y => ?_) (fun y => ?_) (by rw [cl, w1])
        · exact nm_r (nI_1 g) (k _ (congrArg sq_op (sq_li_skip (Or.inr y)).symm))
        · have hno : ¬ (e = some g ∨ w g = 0) := fun q => q.elim (fun q => z (oe.mpr q)) y
          cases hl : sq_li w e g with
          | none => exact br_t rfl (nm_r (nI_1 g) (k _ (by rw [sq_li_new hno hl]; rfl)))
          | some m =>
            have hm := sq_li8 hl
            obtain ⟨v1, v2⟩ := hw m (by omega)
            have clm : (nI m).toNatClampNeg = m := nI_clamp (by omega)
            refine br_f (sq_m1ne (by omega)) ⟨hin, vp_in_nI (by omega) (by decide), pk_le (w m) (w g) (fun q => ?_) (fun q => ?_) (by show a_groupWeights (nI m).toNatClampNeg = _; rw [clm, v1]) (by rw [cl, w1])⟩
            · exact nm_r (nI_1 g) (k _ (by rw [sq_li_keep hl (by omega)]))
            · exact nm_r (nI_1 g) (k _ (by rw [sq_li_less hno hl q]; rfl)))
theorem sq_xjoin {post : SX → Prop} {w gr len : Nat → Nat} {f s : Nat} (hg : ∀ k, k < 8 → a_groupWeights k = nI (w k) ∧ a_groupOf k = nI (gr k) ∧ a_codeLengths k = nI (len k) ∧ gr k < 8) (hf : f < 8) (hs : s < 8) (ne : f ≠ s)
    (h : ∀ gw go cl, (∀ k, k < 8 → gw k = nI (sq_jw w f s k) ∧ go k = nI (sq_jg gr f s k) ∧ cl k = nI (sq_jl len gr f s k)) → post (f_length, f_runCount, f_streamLength, a_letters, a_plainWords, a_treeBits, a_matrixBits, a_matrixZeros, a_letterRows, a_runWords, a_letterCounts, gw, go, cl, a_codes, a_codesOfLength, a_lettersByCode, a_stream, a_sampleStarts, a_sampleRanks, a_sparseHigh, a_sparseLow)) : wpX_joinGroups post (f_length, f_runCount, f_streamLength, a_letters, a_plainWords, a_treeBits, a_matrixBits, a_matrixZeros, a_letterRows, a_runWords, a_letterCounts, a_groupWeights, a_groupOf, a_codeLengths, a_codes, a_codesOfLength, a_lettersByCode, a_stream, a_sampleStarts, a_sampleRanks, a_sparseHigh, a_sparseLow) (nI f) (nI s) :=
  loop_0 (σ := (Nat → Int32) × (Nat → Int32)) (fun n' l x => wX_joinGroups_2 post (nI f) (nI s) f_length f_runCount f_streamLength n' (nI l) a_letters a_plainWords a_treeBits a_matrixBits a_matrixZeros a_letterRows a_runWords a_letterCounts a_groupWeights x.1 x.2 a_codes a_codesOfLength a_lettersByCode a_stream a_sampleStarts a_sampleRanks a_sparseHigh a_sparseLow)
    (fun l x => ∀ k, k < 8 → x.1 k = nI (if k < l then sq_jg gr f s k else gr k) ∧ x.2 k = nI (if k < l then sq_jl len gr f s k else len k)) 8 (a_groupOf, a_codeLengths)
    (fun k hk => by
      rw [if_neg (Nat.not_lt_zero k), if_neg (Nat.not_lt_zero k)]
      exact ⟨(hg k hk).2.1, (hg k hk).2.2.1⟩)
    (fun n' x e => by
      have cf : (nI f).toNatClampNeg = f := nI_clamp (by omega)
      have cs : (nI s).toNatClampNeg = s := nI_clamp (by omega)
      have i1 : vp_in (nI f) 8 := vp_in_nI hf (by decide)
      have i2 : vp_in (nI s) 8 := vp_in_nI hs (by decide)
      refine br_t (nI_le (Nat.le_refl 8) (by decide)) ⟨i1, i2, i1, nm_r (e' := upd a_groupWeights f (nI (w f + w s))) (by rw [cf, cs, (hg f hf).1, (hg s hs).1, nI_add]) ⟨i2, nm_r (e' := upd (upd a_groupWeights f (nI (w f + w s))) s (nI 0)) (by rw [cs]; rfl) (h _ x.1 x.2 (fun k hk => ?_))⟩⟩
      have := e k hk
      rw [if_pos hk, if_pos hk] at this
      refine ⟨?_, this⟩
      unfold sq_jw
      by_cases z : k = s
      · rw [z, pk_us, if_pos rfl]
      · rw [pk_un z, if_neg z]
        by_cases y : k = f
        · rw [y, pk_us, if_pos rfl]
        · rw [pk_un y, if_neg y, (hg k hk).1])
    (fun n' l x hl e k => by
      obtain ⟨go, cl⟩ := x
      have e' : ∀ k, k < 8 → go k = nI (if k < l then sq_jg gr f s k else gr k) ∧ cl k = nI (if k < l then sq_jl len gr f s k else len k) := e
      have c : (nI l).toNatClampNeg = l := nI_clamp (by omega)
      have hin : vp_in (nI l) 8 := vp_in_nI hl (by decide)
      have g8 := (hg l hl).2.2.2
      have el := e' l hl
      rw [if_neg (Nat.lt_irrefl l), if_neg (Nat.lt_irrefl l)] at el
      have yes : gr l = f ∨ gr l = s → wX_joinGroups_28 post (wX_joinGroups_2 post (nI f) (nI s) f_length f_runCount f_streamLength n') (nI f) (nI s) (nI l) f_length f_runCount f_streamLength a_letters a_plainWords a_treeBits a_matrixBits a_matrixZeros a_letterRows a_runWords a_letterCounts a_groupWeights go cl a_codes a_codesOfLength a_lettersByCode a_stream a_sampleStarts a_sampleRanks a_sparseHigh a_sparseLow := by
        intro hy
        refine ⟨hin, nm_r (e' := upd go l (nI f)) (by rw [c]) ⟨hin, hin, nm_r (e' := upd cl l (nI (len l + 1))) (by rw [c, el.2, nI_1]) (nm_r (nI_1 l) (k (_, _) (fun q hq => ?_)))⟩⟩
        show upd go l (nI f) q = _ ∧ upd cl l (nI (len l + 1)) q = _
        by_cases z : q = l
        · rw [z, pk_us, pk_us, if_pos (Nat.lt_succ_self l), if_pos (Nat.lt_succ_self l)]
          unfold sq_jg sq_jl
          rw [if_pos hy, if_pos hy]
          exact ⟨rfl, rfl⟩
        · have := e' q hq
          rw [pk_un z, pk_un z]
          by_cases y : q < l
          · rw [if_pos y, if_pos y] at this
            rw [if_pos (by omega), if_pos (by omega)]
            exact this
          · rw [if_neg y, if_neg y] at this
            rw [if_neg (by omega), if_neg (by omega)]
            exact this
      refine br_f (nI_ge (b := 8) hl (by decide)) ⟨hin, pk_eq (gr l) f (fun z => yes (Or.inl z)) (fun z => ⟨hin, pk_eq (gr l) s (fun y => yes (Or.inr y)) (fun y => ?_) (by rw [c]; exact el.1)⟩) (by rw [c]; exact el.1)⟩
      refine nm_r (nI_1 l) (k (go, cl) (fun q hq => ?_))
      show go q = _ ∧ cl q = _
      have := e' q hq
      by_cases x1 : q = l
      · rw [x1, if_pos (Nat.lt_succ_self l), if_pos (Nat.lt_succ_self l)]
        unfold sq_jg sq_jl
        rw [if_neg (fun t => t.elim z y), if_neg (fun t => t.elim z y)]
        exact el
      · by_cases x2 : q < l
        · rw [if_pos x2, if_pos x2] at this
          rw [if_pos (by omega), if_pos (by omega)]
          exact this
        · rw [if_neg x2, if_neg x2] at this
          rw [if_neg (by omega), if_neg (by omega)]
          exact this)
end
end
section
-- Part 19: measuring and assigning the words (written by wip/whole/gen19.py)
/-- after j joins -/
def sq_MI (cnt w gr len : Nat → Nat) (j : Nat) : Prop :=
  sq_HI cnt len gr w j ∧ sq_co cnt len + sq_hf (7 - j) w = sq_hf 7 cnt ∧ sq_lv w + j ≤ 8 ∧ (sq_se cnt = none → len = (fun _ => 0) ∧ w = cnt)
theorem sq_MI0 (cnt : Nat → Nat) : sq_MI cnt cnt (fun l => l) (fun _ => 0) 0 := by
  refine ⟨sq_HI0 cnt, ?_, sq_cle _ 8, fun _ => ⟨rfl, rfl⟩⟩
  have : sq_co cnt (fun _ => 0) = 0 := sq_s0 8 (fun l _ => Nat.mul_zero _)
  rw [this, Nat.zero_add]
theorem sq_MIs {cnt w gr len : Nat → Nat} {j f s : Nat} (H : sq_MI cnt w gr len j) (hj : j < 7) (hs : sq_se w = some s) (hf : sq_fi w = some f) (f8 : f < 8) (s8 : s < 8) (ne : f ≠ s) (lf : 0 < w f) (ls : 0 < w s) : sq_MI cnt (sq_jw w f s) (sq_jg gr f s) (sq_jl len gr f s) (j + 1) := by
  obtain ⟨h1, h2, h3, h4⟩ := H
  have c := sq_coj h1 f8 s8 ne
  have l := sq_jlv f8 s8 ne lf ls
  refine ⟨sq_HIj h1 hj f8 s8 ne lf ls, ?_, by omega, fun z => ?_⟩
  · rw [show 7 - j = (7 - (j + 1)) + 1 by omega, sq_hf_some hf hs] at h2
    omega
  · rw [(h4 z).2, z] at hs
    exact absurd hs (by simp)
/-- all joined -/
theorem sq_MIe {cnt w gr len : Nat → Nat} {j n : Nat} (H : sq_MI cnt w gr len j) (hj : j ≤ 7) (hs : sq_se w = none) (hc : sq_s cnt 8 = n) : sq_OK cnt (sq_fl cnt len) ∧ sq_co cnt (sq_fl cnt len) = sq_bits cnt n := by
  obtain ⟨h1, h2, h3, h4⟩ := H
  refine ⟨sq_fin h1 hj hs, ?_⟩
  unfold sq_bits
  by_cases z : sq_se cnt = none
  · rw [if_pos z, (h4 z).1, sq_co1 z, hc]
  · rw [if_neg z, sq_cofl h1 hj hs z, ← h2, sq_hf_none hs, Nat.add_zero]
theorem sq_MI7 {cnt w gr len : Nat → Nat} {j : Nat} (H : sq_MI cnt w gr len j) (hj : 7 ≤ j) : sq_se w = none := by
  cases e : sq_se w with
  | none => rfl
  | some s =>
    obtain ⟨f, _, f8, s8, ne, lf, ls, _, _⟩ := sq_se_some e
    have := sq_lv2 f8 s8 ne lf ls
    have := H.2.2.1
    omega
section
variable {f_length f_runCount f_streamLength : Int32} {a_letters : Nat → Int32} {a_plainWords a_treeBits a_matrixBits : Nat → Int64} {a_matrixZeros : Nat → Int32} {a_letterRows a_runWords : Nat → Int64} {a_letterCounts a_groupWeights a_groupOf a_codeLengths a_codes a_codesOfLength a_lettersByCode : Nat → Int32} {a_stream : Nat → Int64} {a_sampleStarts a_sampleRanks : Nat → Int32} {a_sparseHigh a_sparseLow : Nat → Int64}
theorem sq_xm82 {post : SX → Prop} {cnt len : Nat → Nat} (hc : ∀ l, l < 8 → a_letterCounts l = nI (cnt l) ∧ cnt l ≤ 200) (hl : ∀ l, l < 8 → a_codeLengths l = nI (len l) ∧ len l ≤ 7) (h : ∀ cl, (∀ l, l < 8 → cl l = nI (sq_fl cnt len l)) → post (f_length, f_runCount, f_streamLength, a_letters, a_plainWords, a_treeBits, a_matrixBits, a_matrixZeros, a_letterRows, a_runWords, a_letterCounts, a_groupWeights, a_groupOf, cl, a_codes, a_codesOfLength, a_lettersByCode, a_stream, a_sampleStarts, a_sampleRanks, a_sparseHigh, a_sparseLow)) : ∃ n', wX_measureCodes_82 post f_length f_runCount f_streamLength n' 0 a_letters a_plainWords a_treeBits a_matrixBits a_matrixZeros a_letterRows a_runWords a_letterCounts a_groupWeights a_groupOf a_codeLengths a_codes a_codesOfLength a_lettersByCode a_stream a_sampleStarts a_sampleRanks a_sparseHigh a_sparseLow :=
  loop_0 (σ := Nat → Int32) (fun n' i cl => wX_measureCodes_82 post f_length f_runCount f_streamLength n' (nI i) a_letters a_plainWords a_treeBits a_matrixBits a_matrixZeros a_letterRows a_runWords a_letterCounts a_groupWeights a_groupOf cl a_codes a_codesOfLength a_lettersByCode a_stream a_sampleStarts a_sampleRanks a_sparseHigh a_sparseLow) (fun i cl => ∀ l, l < 8 → cl l = nI (if l < i then sq_fl cnt len l else len l)) 8 a_codeLengths
    (fun l hl8 => by rw [if_neg (Nat.not_lt_zero l)]; exact (hl l hl8).1)
    (fun n' cl e => br_t (nI_le (Nat.le_refl 8) (by decide)) (h cl (fun l hl8 => by
      have := e l hl8
      rw [if_pos hl8] at this
      exact this)))
    (fun n' i cl hi e k => by
      have c : (nI i).toNatClampNeg = i := nI_clamp (by omega)
      have hin : vp_in (nI i) 8 := vp_in_nI hi (by decide)
      have ei := e i hi
      rw [if_neg (Nat.lt_irrefl i)] at ei
      obtain ⟨c1, c2⟩ := hc i hi
      obtain ⟨l1, l2⟩ := hl i hi
      have same : sq_fl cnt len i = len i → ∀ l, l < 8 → cl l = nI (if l < i + 1 then sq_fl cnt len l else len l) := by
        intro hs l hl8
        rw [e l hl8]
        by_cases z : l = i
        · rw [z, if_neg (Nat.lt_irrefl i), if_pos (Nat.lt_succ_self i), hs]
        · by_cases y : l < i
          · rw [if_pos y, if_pos (by omega)]
          · rw [if_neg y, if_neg (by omega)]
      refine br_f (nI_ge (b := 8) hi (by decide)) ⟨hin, pk_le (cnt i) 0 (fun z => ?_) (fun z => ⟨hin, pk_eq (len i) 0 (fun y => ⟨hin, ?_⟩) (fun y => ?_) (by rw [c]; exact ei)⟩) (by rw [c]; exact c1)⟩
      · exact nm_r (nI_1 i) (k cl (same (if_neg (by omega))))
      · refine nm_r (e' := upd cl i (nI 1)) (by rw [c]; rfl) (nm_r (nI_1 i) (k _ (fun l hl8 => ?_)))
        by_cases x : l = i
        · rw [x, pk_us, if_pos (Nat.lt_succ_self i)]
          unfold sq_fl
          rw [if_pos ⟨z, y⟩]
        · rw [pk_un x, e l hl8]
          by_cases y2 : l < i
          · rw [if_pos y2, if_pos (by omega)]
          · rw [if_neg y2, if_neg (by omega)]
      · exact nm_r (nI_1 i) (k cl (same (if_neg (fun q => y q.2)))))
theorem sq_xm42 {post : SX → Prop} {cnt : Nat → Nat} {n : Nat} (hs : sq_s cnt 8 = n) (hn : n ≤ 200) (hc : ∀ l, l < 8 → a_letterCounts l = nI (cnt l) ∧ cnt l ≤ 200) (h0 : ∀ k, k < 8 → a_groupWeights k = nI (cnt k) ∧ a_groupOf k = nI k ∧ a_codeLengths k = nI 0)
    (h : ∀ gw go cl len, (∀ l, l < 8 → cl l = nI (len l)) → sq_OK cnt len → sq_co cnt len = sq_bits cnt n → post (f_length, f_runCount, f_streamLength, a_letters, a_plainWords, a_treeBits, a_matrixBits, a_matrixZeros, a_letterRows, a_runWords, a_letterCounts, gw, go, cl, a_codes, a_codesOfLength, a_lettersByCode, a_stream, a_sampleStarts, a_sampleRanks, a_sparseHigh, a_sparseLow)) : ∃ n', wX_measureCodes_42 post n' 1 f_length f_runCount f_streamLength a_letters a_plainWords a_treeBits a_matrixBits a_matrixZeros a_letterRows a_runWords a_letterCounts a_groupWeights a_groupOf a_codeLengths a_codes a_codesOfLength a_lettersByCode a_stream a_sampleStarts a_sampleRanks a_sparseHigh a_sparseLow := by
  have ex : ∀ (gw go cl : Nat → Int32) (w gr len : Nat → Nat) (j : Nat), (∀ k, k < 8 → gw k = nI (w k) ∧ go k = nI (gr k) ∧ cl k = nI (len k)) → sq_MI cnt w gr len j → j ≤ 7 → sq_se w = none → ∃ n', wX_measureCodes_82 post f_length f_runCount f_streamLength n' 0 a_letters a_plainWords a_treeBits a_matrixBits a_matrixZeros a_letterRows a_runWords a_letterCounts gw go cl a_codes a_codesOfLength a_lettersByCode a_stream a_sampleStarts a_sampleRanks a_sparseHigh a_sparseLow := by
    intro gw go cl w gr len j e m hj z
    obtain ⟨m1, m2⟩ := sq_MIe m hj z hs
    exact sq_xm82 hc (fun l hl => ⟨(e l hl).2.2, by have := (m.1.1 l hl).2.1; omega⟩) (fun cl' hcl' => h gw go cl' _ hcl' m1 m2)
  exact pk_loop (σ := (Nat → Int32) × (Nat → Int32) × (Nat → Int32)) (fun n' i x => wX_measureCodes_42 post n' (nI i) f_length f_runCount f_streamLength a_letters a_plainWords a_treeBits a_matrixBits a_matrixZeros a_letterRows a_runWords a_letterCounts x.1 x.2.1 x.2.2 a_codes a_codesOfLength a_lettersByCode a_stream a_sampleStarts a_sampleRanks a_sparseHigh a_sparseLow)
    (fun i x => 1 ≤ i ∧ ∃ w gr len : Nat → Nat, (∀ k, k < 8 → x.1 k = nI (w k) ∧ x.2.1 k = nI (gr k) ∧ x.2.2 k = nI (len k)) ∧ sq_MI cnt w gr len (i - 1)) 8 1 (a_groupWeights, a_groupOf, a_codeLengths) (by decide)
    ⟨Nat.le_refl 1, cnt, fun l => l, fun _ => 0, h0, sq_MI0 cnt⟩
    (fun n' x e => by
      obtain ⟨_, w, gr, len, e1, e2⟩ := e
      exact br_t (nI_le (Nat.le_refl 8) (by decide)) (ex _ _ _ w gr len 7 e1 e2 (Nat.le_refl 7) (sq_MI7 e2 (Nat.le_refl 7))))
    (fun n' i x hi e k => by
      obtain ⟨gw, go, cl⟩ := x
      obtain ⟨i1, w, gr, len, e1, e2⟩ := e
      have e1' : ∀ k, k < 8 → gw k = nI (w k) ∧ go k = nI (gr k) ∧ cl k = nI (len k) := e1
      have wb := sq_wle e2.1 hs
      have hw : ∀ g, g < 8 → gw g = nI (w g) ∧ w g ≤ 200 := fun g hg => ⟨(e1' g hg).1, by have := wb g hg; omega⟩
      refine br_f (nI_ge (b := 8) hi (by decide)) (sq_xlight (e := none) hw (fun m hm => absurd hm (by simp)) (sq_xlight (e := sq_fi w) hw (fun m hm => sq_li8 (w := w) (e := none) (i := 8) hm) ?_))
      show (sq_op (sq_se w) = -1 → _) ∧ (¬ sq_op (sq_se w) = -1 → _)
      cases hse : sq_se w with
      | none => exact br_t rfl (ex gw go cl w gr len (i - 1) e1' e2 (by omega) hse)
      | some s =>
        obtain ⟨f, hfi, f8, s8, ne, lf, ls, _, _⟩ := sq_se_some hse
        refine br_f (sq_m1ne (by omega)) ?_
        have hfi' : sq_li w none 8 = some f := hfi
        have hse' : sq_li w (sq_fi w) 8 = some s := hse
        rw [hse', hfi']
        show wpX_joinGroups _ _ (nI f) (nI s)
        refine sq_xjoin (w := w) (gr := gr) (len := len) (fun q hq => ⟨(e1' q hq).1, (e1' q hq).2.1, (e1' q hq).2.2, (e2.1.1 q hq).1⟩) f8 s8 ne (fun gw' go' cl' hh => nm_r (nI_1 i) (k (gw', go', cl') ⟨by omega, _, _, _, hh, ?_⟩))
        have := sq_MIs e2 (by omega) hse hfi f8 s8 ne lf ls
        rw [show i - 1 + 1 = i + 1 - 1 by omega] at this
        exact this)
theorem sq_xmeasure {post : SX → Prop} {cnt : Nat → Nat} {n : Nat} (hs : sq_s cnt 8 = n) (hn : n ≤ 200) (hc : ∀ l, l < 8 → a_letterCounts l = nI (cnt l) ∧ cnt l ≤ 200)
    (h : ∀ gw go cl len, (∀ l, l < 8 → cl l = nI (len l)) → sq_OK cnt len → sq_co cnt len = sq_bits cnt n → post (f_length, f_runCount, f_streamLength, a_letters, a_plainWords, a_treeBits, a_matrixBits, a_matrixZeros, a_letterRows, a_runWords, a_letterCounts, gw, go, cl, a_codes, a_codesOfLength, a_lettersByCode, a_stream, a_sampleStarts, a_sampleRanks, a_sparseHigh, a_sparseLow)) : wpX_measureCodes post (f_length, f_runCount, f_streamLength, a_letters, a_plainWords, a_treeBits, a_matrixBits, a_matrixZeros, a_letterRows, a_runWords, a_letterCounts, a_groupWeights, a_groupOf, a_codeLengths, a_codes, a_codesOfLength, a_lettersByCode, a_stream, a_sampleStarts, a_sampleRanks, a_sparseHigh, a_sparseLow) :=
  loop_0 (σ := (Nat → Int32) × (Nat → Int32) × (Nat → Int32)) (fun n' i x => wX_measureCodes_2 post f_length f_runCount f_streamLength n' (nI i) a_letters a_plainWords a_treeBits a_matrixBits a_matrixZeros a_letterRows a_runWords a_letterCounts x.1 x.2.1 x.2.2 a_codes a_codesOfLength a_lettersByCode a_stream a_sampleStarts a_sampleRanks a_sparseHigh a_sparseLow)
    (fun i x => ∀ k, k < i → x.1 k = nI (cnt k) ∧ x.2.1 k = nI k ∧ x.2.2 k = nI 0) 8 (a_groupWeights, a_groupOf, a_codeLengths) (fun k hk => absurd hk (Nat.not_lt_zero k))
    (fun n' x e => br_t (nI_le (Nat.le_refl 8) (by decide)) (sq_xm42 hs hn hc e h))
    (fun n' i x hi e k => by
      obtain ⟨gw, go, cl⟩ := x
      have e' : ∀ k, k < i → gw k = nI (cnt k) ∧ go k = nI k ∧ cl k = nI 0 := e
      have c : (nI i).toNatClampNeg = i := nI_clamp (by omega)
      have hin : vp_in (nI i) 8 := vp_in_nI hi (by decide)
      refine br_f (nI_ge (b := 8) hi (by decide)) ⟨hin, nm_r (e' := upd cl i (nI 0)) (by rw [c]; rfl) ⟨hin, nm_r (e' := upd go i (nI i)) (by rw [c]) ⟨hin, hin, nm_r (e' := upd gw i (nI (cnt i))) (by rw [c, (hc i hi).1]) (nm_r (nI_1 i) (k (upd gw i (nI (cnt i)), upd go i (nI i), upd cl i (nI 0)) (fun q hq => ?_)))⟩⟩⟩
      show upd gw i (nI (cnt i)) q = _ ∧ upd go i (nI i) q = _ ∧ upd cl i (nI 0) q = _
      by_cases z : q = i
      · rw [z, pk_us, pk_us, pk_us]
        exact ⟨rfl, rfl, rfl⟩
      · rw [pk_un z, pk_un z, pk_un z]
        exact e' q (by omega))
theorem sq_xassign {post : SX → Prop} {len : Nat → Nat} (hl : ∀ l, l < 8 → a_codeLengths l = nI (len l) ∧ len l ≤ 7) (hK : ∀ s, s ≤ 7 → sq_K len s ≤ 128)
    (h : ∀ cs col lbc, (∀ l, l < 8 → 1 ≤ len l → cs l = nI (sq_w len l) ∧ lbc (sq_ix len l) = nI l) → (∀ s, 1 ≤ s → s < 8 → col s = nI (sq_n len s)) → post (f_length, f_runCount, f_streamLength, a_letters, a_plainWords, a_treeBits, a_matrixBits, a_matrixZeros, a_letterRows, a_runWords, a_letterCounts, a_groupWeights, a_groupOf, a_codeLengths, cs, col, lbc, a_stream, a_sampleStarts, a_sampleRanks, a_sparseHigh, a_sparseLow)) : wpX_assignCodes post (f_length, f_runCount, f_streamLength, a_letters, a_plainWords, a_treeBits, a_matrixBits, a_matrixZeros, a_letterRows, a_runWords, a_letterCounts, a_groupWeights, a_groupOf, a_codeLengths, a_codes, a_codesOfLength, a_lettersByCode, a_stream, a_sampleStarts, a_sampleRanks, a_sparseHigh, a_sparseLow) :=
  pk_loop (σ := Int32 × Int32 × (Nat → Int32) × (Nat → Int32) × (Nat → Int32)) (fun n' s x => wX_assignCodes_6 post f_length f_runCount f_streamLength n' x.1 x.2.1 (nI s) a_letters a_plainWords a_treeBits a_matrixBits a_matrixZeros a_letterRows a_runWords a_letterCounts a_groupWeights a_groupOf a_codeLengths x.2.2.1 x.2.2.2.1 x.2.2.2.2 a_stream a_sampleStarts a_sampleRanks a_sparseHigh a_sparseLow)
    (fun s x => 1 ≤ s ∧ x.1 = nI (sq_f len s) ∧ x.2.1 = nI (sq_i len s) ∧ (∀ l, l < 8 → 1 ≤ len l → len l < s → x.2.2.1 l = nI (sq_w len l) ∧ x.2.2.2.2 (sq_ix len l) = nI l) ∧ (∀ t, 1 ≤ t → t < s → x.2.2.2.1 t = nI (sq_n len t))) 8 1 (0, 0, a_codes, a_codesOfLength, a_lettersByCode) (by decide)
    ⟨Nat.le_refl 1, rfl, rfl, fun l _ h1 h2 => by omega, fun t h1 h2 => by omega⟩
    (fun n' x e => br_t (nI_le (Nat.le_refl 8) (by decide)) (h _ _ _ (fun l h8 h1 => e.2.2.2.1 l h8 h1 (by have := (hl l h8).2; omega)) (fun s h1 h8 => e.2.2.2.2 s h1 h8)))
    (fun n' s x hs e k => by
      obtain ⟨x1, x2, cs, col, lbc⟩ := x
      obtain ⟨e0, e1, e2, e3, e4⟩ := e
      have e1' : x1 = nI (sq_f len s) := e1
      have e2' : x2 = nI (sq_i len s) := e2
      have e3' : ∀ l, l < 8 → 1 ≤ len l → len l < s → cs l = nI (sq_w len l) ∧ lbc (sq_ix len l) = nI l := e3
      have e4' : ∀ t, 1 ≤ t → t < s → col t = nI (sq_n len t) := e4
      subst e1' e2'
      have cs' : (nI s).toNatClampNeg = s := nI_clamp (by omega)
      have hin : vp_in (nI s) 8 := vp_in_nI hs (by decide)
      have fle := sq_fle hK e0 (show s ≤ 7 by omega)
      have p7 : 2 ^ s ≤ 2 ^ 7 := Nat.pow_le_pow_right (by decide) (by omega)
      refine br_f (nI_ge (b := 8) hs (by decide)) ⟨hin, nm_r (e' := upd col s (nI 0)) (by rw [cs']; rfl) ?_⟩
      exact loop_0 (σ := Int32 × Int32 × (Nat → Int32) × (Nat → Int32) × (Nat → Int32)) (fun n'' l y => wX_assignCodes_22 post (wX_assignCodes_6 post f_length f_runCount f_streamLength n') (nI s) f_length f_runCount f_streamLength n'' y.1 y.2.1 (nI l) a_letters a_plainWords a_treeBits a_matrixBits a_matrixZeros a_letterRows a_runWords a_letterCounts a_groupWeights a_groupOf a_codeLengths y.2.2.1 y.2.2.2.1 y.2.2.2.2 a_stream a_sampleStarts a_sampleRanks a_sparseHigh a_sparseLow)
        (fun l y => y.1 = nI (sq_f len s + sq_c (fun k => decide (len k = s)) l) ∧ y.2.1 = nI (sq_i len s + sq_c (fun k => decide (len k = s)) l) ∧ (∀ q, q < 8 → 1 ≤ len q → (len q < s ∨ len q = s ∧ q < l) → y.2.2.1 q = nI (sq_w len q) ∧ y.2.2.2.2 (sq_ix len q) = nI q) ∧ (∀ t, 1 ≤ t → t < s → y.2.2.2.1 t = nI (sq_n len t)) ∧ y.2.2.2.1 s = nI (sq_c (fun k => decide (len k = s)) l)) 8 (nI (sq_f len s), nI (sq_i len s), cs, upd col s (nI 0), lbc)
        ⟨rfl, rfl, fun q h8 h1 h2 => e3' q h8 h1 (by omega), fun t h1 h2 => (pk_un (show t ≠ s by omega)).trans (e4' t h1 h2), pk_us⟩
        (fun n'' y f => by
          obtain ⟨f1, f2, f3, f4, f5⟩ := f
          obtain ⟨t, rfl⟩ : ∃ t, s = t + 1 := ⟨s - 1, by omega⟩
          refine br_t (nI_le (Nat.le_refl 8) (by decide)) (nm_r (e' := nI (sq_f len (t + 1 + 1))) ?_ (nm_r (nI_1 (t + 1)) (k (_, y.2.1, y.2.2.1, y.2.2.2.1, y.2.2.2.2) ⟨by omega, rfl, f2, fun l h8 h1 h2 => f3 l h8 h1 (by omega), fun u h1 h2 => ?_⟩)))
          · rw [f1]
            show nI _ * nI 2 = _
            rw [pk_mul, Nat.mul_comm]
            rfl
          · by_cases z : u = t + 1
            · subst z; exact f5
            · exact f4 u h1 (by omega))
        (fun n'' l y hl8 f c => by
          obtain ⟨y1, y2, cs1, col1, lbc1⟩ := y
          obtain ⟨f1, f2, f3, f4, f5⟩ := f
          have f1' : y1 = nI (sq_f len s + sq_c (fun k => decide (len k = s)) l) := f1
          have f2' : y2 = nI (sq_i len s + sq_c (fun k => decide (len k = s)) l) := f2
          have f3' : ∀ q, q < 8 → 1 ≤ len q → (len q < s ∨ len q = s ∧ q < l) → cs1 q = nI (sq_w len q) ∧ lbc1 (sq_ix len q) = nI q := f3
          have f4' : ∀ t, 1 ≤ t → t < s → col1 t = nI (sq_n len t) := f4
          have f5' : col1 s = nI (sq_c (fun k => decide (len k = s)) l) := f5
          subst f1' f2'
          have cl : (nI l).toNatClampNeg = l := nI_clamp (by omega)
          have hil : vp_in (nI l) 8 := vp_in_nI hl8 (by decide)
          have l7 := (hl l hl8).2
          refine br_f (nI_ge (b := 8) hl8 (by decide)) ⟨hil, pk_eq (len l) s (fun z => ⟨hil, ?_⟩) (fun z => ?_) (by rw [cl]; exact (hl l hl8).1)⟩
          · subst z
            have ix8 := sq_ix8 (len := len) hl8 e0
            have ixe : sq_i len (len l) + sq_c (fun k => decide (len k = len l)) l = sq_ix len l := rfl
            have hix : vp_in (nI (sq_ix len l)) 8 := vp_in_nI ix8 (by decide)
            rw [ixe]
            refine nm_r (e' := upd cs1 l (nI (sq_w len l))) (by rw [cl]; rfl) ⟨hix, nm_r (e' := upd lbc1 (sq_ix len l) (nI l)) (by rw [nI_clamp (by omega)]) ⟨hin, hin, nm_r (e' := upd col1 (len l) (nI (sq_c (fun k => decide (len k = len l)) l + 1))) (by show upd col1 (nI (len l)).toNatClampNeg (col1 (nI (len l)).toNatClampNeg + 1) = _; rw [cs', f5', nI_1]) (nm_r (nI_1 _) (nm_r (nI_1 _) (nm_r (nI_1 l) (c (nI _, nI _, upd cs1 l (nI (sq_w len l)), upd col1 (len l) (nI (sq_c (fun k => decide (len k = len l)) l + 1)), upd lbc1 (sq_ix len l) (nI l)) ⟨?_, ?_, ?_, ?_, ?_⟩))))⟩⟩
            · rw [sq_ct (decide_eq_true rfl), Nat.add_assoc]
            · rw [sq_ct (decide_eq_true rfl), ← Nat.add_assoc, ixe]
            · intro q h8 h1 h2
              show upd cs1 l (nI (sq_w len l)) q = _ ∧ upd lbc1 (sq_ix len l) (nI l) (sq_ix len q) = _
              by_cases y : q = l
              · rw [y, pk_us, pk_us]; exact ⟨rfl, rfl⟩
              · have ne : sq_ix len q ≠ sq_ix len l := by
                  by_cases w : len q < len l
                  · have a1 := sq_ixlt (len := len) h8 h1 w
                    rw [← ixe]
                    omega
                  · have a2 : len q = len l ∧ q < l := by omega
                    have a3 : sq_ix len q = sq_i len (len l) + sq_c (fun k => decide (len k = len l)) q := by
                      unfold sq_ix
                      rw [a2.1]
                    have a4 := sq_clt (p := fun k => decide (len k = len l)) a2.2 (decide_eq_true a2.1)
                    rw [a3, ← ixe]
                    omega
                rw [pk_un y, pk_un ne]
                exact f3' q h8 h1 (by omega)
            · intro t h1 h2
              exact (pk_un (show t ≠ len l by omega)).trans (f4' t h1 h2)
            · show upd col1 (len l) _ (len l) = _
              rw [pk_us, sq_ct (decide_eq_true rfl)]
          · have cf : sq_c (fun k => decide (len k = s)) (l + 1) = sq_c (fun k => decide (len k = s)) l := sq_cf (decide_eq_false z)
            refine nm_r (nI_1 l) (c (nI _, nI _, cs1, col1, lbc1) ⟨?_, ?_, ?_, f4', ?_⟩)
            · rw [cf]
            · rw [cf]
            · intro q h8 h1 h2
              exact f3' q h8 h1 (by
                by_cases y : q = l
                · subst y; omega
                · omega)
            · rw [cf]; exact f5'))
end
end
section
-- Part 20: the stream; all engines packed (written by wip/whole/gen20.py)
section
variable {f_length f_runCount f_streamLength : Int32} {a_letters : Nat → Int32} {a_plainWords a_treeBits a_matrixBits : Nat → Int64} {a_matrixZeros : Nat → Int32} {a_letterRows a_runWords : Nat → Int64} {a_letterCounts a_groupWeights a_groupOf a_codeLengths a_codes a_codesOfLength a_lettersByCode : Nat → Int32} {a_stream : Nat → Int64} {a_sampleStarts a_sampleRanks : Nat → Int32} {a_sparseHigh a_sparseLow : Nat → Int64}
theorem sq_xsample {post : SX → Prop} {s : Nat} (hs : s < 13) (h : ∀ sr, (∀ l, l < 8 → sr (8 * s + l) = a_letterCounts l) → (∀ j, (j < 8 * s ∨ 8 * s + 8 ≤ j) → sr j = a_sampleRanks j) → post (f_length, f_runCount, f_streamLength, a_letters, a_plainWords, a_treeBits, a_matrixBits, a_matrixZeros, a_letterRows, a_runWords, a_letterCounts, a_groupWeights, a_groupOf, a_codeLengths, a_codes, a_codesOfLength, a_lettersByCode, a_stream, (upd a_sampleStarts s f_streamLength), sr, a_sparseHigh, a_sparseLow)) : wpX_takeSample post (f_length, f_runCount, f_streamLength, a_letters, a_plainWords, a_treeBits, a_matrixBits, a_matrixZeros, a_letterRows, a_runWords, a_letterCounts, a_groupWeights, a_groupOf, a_codeLengths, a_codes, a_codesOfLength, a_lettersByCode, a_stream, a_sampleStarts, a_sampleRanks, a_sparseHigh, a_sparseLow) (nI s) :=
  ⟨vp_in_nI hs (by decide), nm_r (e' := upd a_sampleStarts s f_streamLength) (by rw [nI_clamp (by omega)]) (loop_0 (σ := Nat → Int32) (fun n' l sr => wX_takeSample_12 post (nI s) f_length f_runCount f_streamLength n' (nI l) a_letters a_plainWords a_treeBits a_matrixBits a_matrixZeros a_letterRows a_runWords a_letterCounts a_groupWeights a_groupOf a_codeLengths a_codes a_codesOfLength a_lettersByCode a_stream (upd a_sampleStarts s f_streamLength) sr a_sparseHigh a_sparseLow)
    (fun l sr => (∀ k, k < l → sr (8 * s + k) = a_letterCounts k) ∧ (∀ j, (j < 8 * s ∨ 8 * s + 8 ≤ j) → sr j = a_sampleRanks j)) 8 a_sampleRanks ⟨fun k hk => absurd hk (Nat.not_lt_zero k), fun _ _ => rfl⟩
    (fun n' sr e => br_t (nI_le (Nat.le_refl 8) (by decide)) (h sr e.1 e.2))
    (fun n' l sr hl e k => by
      have g : nI s * 8 + nI l = nI (8 * s + l) := by
        rw [show nI s * 8 = nI (s * 8) from pk_mul s 8, nI_add]
        exact congrArg nI (by omega)
      refine br_f (nI_ge (b := 8) hl (by decide)) ⟨vp_in_nI hl (by decide), by rw [g]; exact vp_in_nI (by omega) (by decide), nm_r (e' := upd sr (8 * s + l) (a_letterCounts l)) (by rw [g, nI_clamp (by omega), nI_clamp (by omega)]) (nm_r (nI_1 l) (k _ ⟨fun q hq => ?_, fun j hj => ?_⟩))⟩
      · by_cases z : q = l
        · rw [z, pk_us]
        · rw [pk_un (show 8 * s + q ≠ 8 * s + l by omega)]; exact e.1 q (by omega)
      · rw [pk_un (show j ≠ 8 * s + l by omega)]; exact e.2 j hj))⟩
theorem sq_xwriteLetter {post : SX → Prop} {len : Nat → Nat} {v t : Nat} (hv : v < 8) (h7 : len v ≤ 7) (hc : a_codeLengths v = nI (len v)) (hw : a_codes v = nI (sq_w len v)) (hw31 : sq_w len v < 2 ^ 31) (ht : t + len v ≤ 640) (h0 : ∀ P, t ≤ P → P < 640 → sq_B a_stream P = false)
    (h : ∀ a, sq_WS (sq_B a_stream) (sq_B a) t (sq_w len v) (len v) (len v) → post (f_length, f_runCount, (nI (t + len v)), a_letters, a_plainWords, a_treeBits, a_matrixBits, a_matrixZeros, a_letterRows, a_runWords, (upd a_letterCounts v (a_letterCounts v + 1)), a_groupWeights, a_groupOf, a_codeLengths, a_codes, a_codesOfLength, a_lettersByCode, a, a_sampleStarts, a_sampleRanks, a_sparseHigh, a_sparseLow)) : wpX_writeLetter post (f_length, f_runCount, (nI t), a_letters, a_plainWords, a_treeBits, a_matrixBits, a_matrixZeros, a_letterRows, a_runWords, a_letterCounts, a_groupWeights, a_groupOf, a_codeLengths, a_codes, a_codesOfLength, a_lettersByCode, a_stream, a_sampleStarts, a_sampleRanks, a_sparseHigh, a_sparseLow) (nI v) := by
  have cv : (nI v).toNatClampNeg = v := nI_clamp (by omega)
  have hin : vp_in (nI v) 8 := vp_in_nI hv (by decide)
  refine ⟨hin, nm_r (e' := nI (len v - 0) - 1) (by rw [cv, hc, Nat.sub_zero]) ?_⟩
  exact loop_0 (σ := Nat → Int64) (fun n' c a => wX_writeLetter_9 post (nI v) n' (nI (len v - c) - 1) f_length f_runCount (nI (t + c)) a_letters a_plainWords a_treeBits a_matrixBits a_matrixZeros a_letterRows a_runWords a_letterCounts a_groupWeights a_groupOf a_codeLengths a_codes a_codesOfLength a_lettersByCode a a_sampleStarts a_sampleRanks a_sparseHigh a_sparseLow) (fun c a => sq_WS (sq_B a_stream) (sq_B a) t (sq_w len v) (len v) c) (len v) a_stream (sq_WS0 h0)
    (fun n' a e => by
      refine br_t (by rw [Nat.sub_self]; decide) ⟨hin, hin, nm_r (e' := upd a_letterCounts v (a_letterCounts v + 1)) (by rw [cv]) (h a e)⟩)
    (fun n' c a hc2 e k => by
      have e1 : nI (len v - c) - 1 = nI (len v - 1 - c) := (pk_sub (b := 1) (by omega)).trans (congrArg nI (by omega))
      have e2 : nI (len v - 1 - c) + (-1) = nI (len v - (c + 1)) - 1 := by rw [sq_m1]; exact congrArg (fun z => nI z - 1) (by omega)
      have fin : ∀ b, sq_WS (sq_B a_stream) (sq_B b) t (sq_w len v) (len v) (c + 1) → wX_writeLetter_38 post (wX_writeLetter_9 post (nI v) n') (nI v) (nI (len v - 1 - c)) f_length f_runCount (nI (t + c)) a_letters a_plainWords a_treeBits a_matrixBits a_matrixZeros a_letterRows a_runWords a_letterCounts a_groupWeights a_groupOf a_codeLengths a_codes a_codesOfLength a_lettersByCode b a_sampleStarts a_sampleRanks a_sparseHigh a_sparseLow :=
        fun b hb => nm_r (nI_1 (t + c)) (nm_r e2 (k b hb))
      rw [e1]
      have cb : (a_codes (nI v).toNatClampNeg >>> (nI (len v - 1 - c) &&& 31)) &&& 1 = nI ((sq_w len v).testBit (len v - 1 - c)).toNat := by rw [cv, hw, sq_cbit hw31 (by omega)]
      refine br_f (nI_pos (by omega)) ⟨hin, ?_⟩
      cases hb : (sq_w len v).testBit (len v - 1 - c) with
      | true =>
        rw [hb] at cb
        exact br_t cb (sq_xset_stream (by omega) (fun a' ha' => fin a' (sq_WS1 e hb ha')))
      | false =>
        rw [hb] at cb
        exact br_f (by rw [cb]; decide) (fin a (sq_WS2 e hb (by omega))))
theorem sq_xws35 {post : SX → Prop} {L len : Nat → Nat} {n : Nat} (hL : ∀ j, L j < 8) (hn : n ≤ 200) (hOK : sq_OK (fun l => sq_rk L l n) len) (hc : ∀ l, l < 8 → a_codeLengths l = nI (len l)) (hw : ∀ l, l < 8 → 1 ≤ len l → a_codes l = nI (sq_w len l)) (h600 : sq_T L len n ≤ 600)
    (hl0 : ∀ l, l < 8 → a_letterCounts l = nI 0) (hs0 : ∀ P, P < 640 → sq_B a_stream P = false)
    (h : ∀ lc sm ss sr, sq_SW L len n (sq_B sm) → (∀ s, 16 * s ≤ n → ss s = nI (sq_T L len (16 * s)) ∧ ∀ l, l < 8 → sr (8 * s + l) = nI (sq_rk L l (16 * s))) → post ((nI n), f_runCount, (nI (sq_T L len n)), (sq_l L), a_plainWords, a_treeBits, a_matrixBits, a_matrixZeros, a_letterRows, a_runWords, lc, a_groupWeights, a_groupOf, a_codeLengths, a_codes, a_codesOfLength, a_lettersByCode, sm, ss, sr, a_sparseHigh, a_sparseLow)) : ∃ n', wX_writeStream_35 post n' 0 (nI n) f_runCount 0 (sq_l L) a_plainWords a_treeBits a_matrixBits a_matrixZeros a_letterRows a_runWords a_letterCounts a_groupWeights a_groupOf a_codeLengths a_codes a_codesOfLength a_lettersByCode a_stream a_sampleStarts a_sampleRanks a_sparseHigh a_sparseLow :=
  loop_0 (σ := Int32 × (Nat → Int32) × (Nat → Int64) × (Nat → Int32) × (Nat → Int32)) (fun n' p x => wX_writeStream_35 post n' (nI p) (nI n) f_runCount x.1 (sq_l L) a_plainWords a_treeBits a_matrixBits a_matrixZeros a_letterRows a_runWords x.2.1 a_groupWeights a_groupOf a_codeLengths a_codes a_codesOfLength a_lettersByCode x.2.2.1 x.2.2.2.1 x.2.2.2.2 a_sparseHigh a_sparseLow)
    (fun p x => x.1 = nI (sq_T L len (min p n)) ∧ (∀ l, l < 8 → x.2.1 l = nI (sq_rk L l (min p n))) ∧ sq_SW L len (min p n) (sq_B x.2.2.1) ∧ (∀ s, 16 * s < p → 16 * s ≤ n → x.2.2.2.1 s = nI (sq_T L len (16 * s)) ∧ ∀ l, l < 8 → x.2.2.2.2 (8 * s + l) = nI (sq_rk L l (16 * s)))) (n + 1) (0, a_letterCounts, a_stream, a_sampleStarts, a_sampleRanks)
    (by
      rw [Nat.zero_min]
      exact ⟨rfl, hl0, ⟨fun j hj => absurd hj (Nat.not_lt_zero j), fun P _ hP => hs0 P hP⟩, fun s hs => absurd hs (Nat.not_lt_zero _)⟩)
    (fun n' x e => by
      obtain ⟨e1, e2, e3, e4⟩ := e
      rw [Nat.min_eq_right (by omega)] at e1 e2 e3
      obtain ⟨x1, lc, sm, ss, sr⟩ := x
      have e1' : x1 = nI (sq_T L len n) := e1
      subst e1'
      exact br_t (nI_lt (by omega) (by omega)) (h lc sm ss sr e3 (fun s hs => e4 s (by omega) hs)))
    (fun n' p x hp e k => by
      obtain ⟨x1, lc, sm, ss, sr⟩ := x
      obtain ⟨e1, e2, e3, e4⟩ := e
      rw [Nat.min_eq_left (by omega)] at e1 e2 e3
      have e1' : x1 = nI (sq_T L len p) := e1
      have e2' : ∀ l, l < 8 → lc l = nI (sq_rk L l p) := e2
      have e3' : sq_SW L len p (sq_B sm) := e3
      have e4' : ∀ s, 16 * s < p → 16 * s ≤ n → ss s = nI (sq_T L len (16 * s)) ∧ ∀ l, l < 8 → sr (8 * s + l) = nI (sq_rk L l (16 * s)) := e4
      subst e1'
      have cont : ∀ ss' sr' : Nat → Int32, (∀ s, 16 * s < p + 1 → 16 * s ≤ n → ss' s = nI (sq_T L len (16 * s)) ∧ ∀ l, l < 8 → sr' (8 * s + l) = nI (sq_rk L l (16 * s))) → wX_writeStream_59 post (wX_writeStream_35 post n') (nI p) (nI n) f_runCount (nI (sq_T L len p)) (sq_l L) a_plainWords a_treeBits a_matrixBits a_matrixZeros a_letterRows a_runWords lc a_groupWeights a_groupOf a_codeLengths a_codes a_codesOfLength a_lettersByCode sm ss' sr' a_sparseHigh a_sparseLow := by
        intro ss' sr' hsm
        refine pk_le n p (fun z => ?_) (fun z => ?_)
        · refine nm_r (nI_1 p) (k (nI (sq_T L len p), lc, sm, ss', sr') ⟨?_, ?_, ?_, hsm⟩)
          · rw [show min (p + 1) n = p by omega]
          · rw [show min (p + 1) n = p by omega]; exact e2'
          · rw [show min (p + 1) n = p by omega]; exact e3'
        · have l8 := hL p
          have lw := sq_CPl hL hOK z
          have tm := sq_Tmono L len (a := p + 1) n (by omega)
          rw [sq_Ts] at tm
          have w31 : sq_w len (L p) < 2 ^ 31 := by
            have a1 := sq_w0 hOK.2.2 l8 lw.1 lw.2
            have a2 : 2 ^ len (L p) ≤ 2 ^ 7 := Nat.pow_le_pow_right (by decide) lw.2
            omega
          refine ⟨vp_in_nI (by omega) (by decide), ?_⟩
          rw [sq_lc L (by omega)]
          refine sq_xwriteLetter l8 lw.2 (hc _ l8) (hw _ l8 lw.1) w31 (by omega) e3'.2 (fun a ha => nm_r (nI_1 p) (k (nI (sq_T L len p + len (L p)), upd lc (L p) (lc (L p) + 1), a, ss', sr') ⟨?_, ?_, ?_, hsm⟩))
          · rw [show min (p + 1) n = p + 1 by omega, sq_Ts]
          · rw [show min (p + 1) n = p + 1 by omega]
            intro l hl
            show upd lc (L p) (lc (L p) + 1) l = _
            by_cases y : l = L p
            · rw [y, pk_us, e2' _ l8, nI_1, sq_rkt rfl]
            · rw [pk_un y, e2' l hl, sq_rkf (fun q => y q.symm)]
          · rw [show min (p + 1) n = p + 1 by omega]
            exact sq_SWs e3' ha
      refine br_f (nI_nlt (by omega) (by omega)) (pk_eq (16 * (p / 16)) p (fun z => ?_) (fun z => ?_) (by rw [sq_d16 (by omega), sq_m16 (by omega)]))
      · rw [sq_d16 (by omega)]
        refine sq_xsample (by omega) (fun sr' h1 h2 => cont _ sr' (fun s hs1 hs2 => ?_))
        by_cases y : s = p / 16
        · subst y
          rw [pk_us, z]
          exact ⟨rfl, fun l hl => (h1 l hl).trans (e2' l hl)⟩
        · have := e4' s (by omega) hs2
          rw [pk_un y]
          exact ⟨this.1, fun l hl => (h2 _ (by omega)).trans (this.2 l hl)⟩
      · exact cont ss sr (fun s hs1 hs2 => e4' s (by omega) hs2))
theorem sq_xwriteStream {post : SX → Prop} {L len : Nat → Nat} {n : Nat} (hL : ∀ j, L j < 8) (hn : n ≤ 200) (hOK : sq_OK (fun l => sq_rk L l n) len) (hc : ∀ l, l < 8 → a_codeLengths l = nI (len l)) (hw : ∀ l, l < 8 → 1 ≤ len l → a_codes l = nI (sq_w len l)) (h600 : sq_T L len n ≤ 600)
    (h : ∀ lc sm ss sr, sq_SW L len n (sq_B sm) → (∀ s, 16 * s ≤ n → ss s = nI (sq_T L len (16 * s)) ∧ ∀ l, l < 8 → sr (8 * s + l) = nI (sq_rk L l (16 * s))) → post ((nI n), f_runCount, (nI (sq_T L len n)), (sq_l L), a_plainWords, a_treeBits, a_matrixBits, a_matrixZeros, a_letterRows, a_runWords, lc, a_groupWeights, a_groupOf, a_codeLengths, a_codes, a_codesOfLength, a_lettersByCode, sm, ss, sr, a_sparseHigh, a_sparseLow)) : wpX_writeStream post ((nI n), f_runCount, f_streamLength, (sq_l L), a_plainWords, a_treeBits, a_matrixBits, a_matrixZeros, a_letterRows, a_runWords, a_letterCounts, a_groupWeights, a_groupOf, a_codeLengths, a_codes, a_codesOfLength, a_lettersByCode, a_stream, a_sampleStarts, a_sampleRanks, a_sparseHigh, a_sparseLow) :=
  sq_xclear_stream (fun a0 ha0 => loop_0 (σ := Nat → Int32) (fun n' i c => wX_writeStream_14 post (nI n) f_runCount 0 n' (nI i) (sq_l L) a_plainWords a_treeBits a_matrixBits a_matrixZeros a_letterRows a_runWords c a_groupWeights a_groupOf a_codeLengths a_codes a_codesOfLength a_lettersByCode a0 a_sampleStarts a_sampleRanks a_sparseHigh a_sparseLow) (fun i c => ∀ l, l < i → c l = nI 0) 8 a_letterCounts (fun l hl => absurd hl (Nat.not_lt_zero l))
    (fun n' c e => br_t (nI_le (Nat.le_refl 8) (by decide)) (sq_xws35 hL hn hOK hc hw h600 e (fun P hP => sq_B0 (ha0 _ (by omega))) h))
    (fun n' i c hi e k => br_f (nI_ge (b := 8) hi (by decide)) ⟨vp_in_nI hi (by decide), nm_r (e' := upd c i (nI 0)) (by rw [nI_clamp (by omega)]; rfl) (nm_r (nI_1 i) (k _ (fun l hl => by
      by_cases z : l = i
      · rw [z, pk_us]
      · rw [pk_un z]; exact e l (by omega))))⟩))
theorem sq_xpackCode {post : SX → Prop} {L : Nat → Nat} {n : Nat} (hL : ∀ j, L j < 8) (hn : n ≤ 200) (h : ∀ sl lc gw go cl cs col lbc sm ss sr, (∃ len, sq_CP L n len cl col lbc (sq_B sm) ss sr sl) → post ((nI n), f_runCount, sl, (sq_l L), a_plainWords, a_treeBits, a_matrixBits, a_matrixZeros, a_letterRows, a_runWords, lc, gw, go, cl, cs, col, lbc, sm, ss, sr, a_sparseHigh, a_sparseLow)) : wpX_packCode post ((nI n), f_runCount, f_streamLength, (sq_l L), a_plainWords, a_treeBits, a_matrixBits, a_matrixZeros, a_letterRows, a_runWords, a_letterCounts, a_groupWeights, a_groupOf, a_codeLengths, a_codes, a_codesOfLength, a_lettersByCode, a_stream, a_sampleStarts, a_sampleRanks, a_sparseHigh, a_sparseLow) :=
  sq_xcount hL hn (fun c hc => sq_xmeasure (cnt := fun l => sq_rk L l n) (sq_cnts L hL n) hn (fun l hl => ⟨hc l hl, by have := sq_rkle L l n; omega⟩) (fun gw go cl len hcl hOK hco => by
    have sw : sq_T L len n = sq_bits (fun l => sq_rk L l n) n := (sq_swap L len hL n).trans hco
    have l7 : ∀ l, l < 8 → len l ≤ 7 := fun l hl => by
      by_cases z : 0 < sq_rk L l n
      · exact (hOK.1 l hl z).2
      · rw [hOK.2.1 l hl (show sq_rk L l n = 0 by omega)]; decide
    exact sq_xassign (len := len) (fun l hl => ⟨hcl l hl, l7 l hl⟩) hOK.2.2 (fun cs col lbc h1 h2 => sq_xwriteStream hL hn hOK hcl (fun l hl hl1 => (h1 l hl hl1).1) (sq_T600 hL hn sw) (fun lc sm ss sr h3 h4 => h _ _ _ _ _ _ _ _ _ _ _ ⟨len, hOK, hcl, h2, fun l hl hl1 => (h1 l hl hl1).2, h3, h4, rfl, sw⟩))))
theorem sq_xpackAll {post : SX → Prop} {L : Nat → Nat} {n : Nat} (hL : ∀ j, L j < 8) (hn : n ≤ 200) (h : ∀ rc sl pw tb mb mz lr rw lc gw go cl cs col lbc sm ss sr hi lo, sq_PK L n pw tb mb mz lr rw rc cl col lbc sm ss sr sl hi lo → post ((nI n), rc, sl, (sq_l L), pw, tb, mb, mz, lr, rw, lc, gw, go, cl, cs, col, lbc, sm, ss, sr, hi, lo)) : wpX_packAll post ((nI n), f_runCount, f_streamLength, (sq_l L), a_plainWords, a_treeBits, a_matrixBits, a_matrixZeros, a_letterRows, a_runWords, a_letterCounts, a_groupWeights, a_groupOf, a_codeLengths, a_codes, a_codesOfLength, a_lettersByCode, a_stream, a_sampleStarts, a_sampleRanks, a_sparseHigh, a_sparseLow) :=
  sq_xpackPlain hL hn (fun pw h0 => sq_xpackTree hL hn (fun tb h1 => sq_xpackMatrix hL hn (fun mb mz h2 => sq_xpackRows hL hn (fun lr h3 => sq_xpackRuns hL hn (fun rw rc h4 => sq_xpackCode hL hn (fun sl lc gw go cl cs col lbc sm ss sr h5 => sq_xpackSparse hL hn (fun hi lo h6 =>
    h rc sl pw tb mb mz lr rw lc gw go cl cs col lbc sm ss sr hi lo ⟨h0, h1, h2, h3, h4, h5, h6⟩)))))))
end
end
section
-- Part 21: the relation, the checks of arguments (written by wip/whole/gen21.py)
/-- both lists are the same, and all seven packings hold it -/
def i_Rel (_ : Nat) (u : SX) (v : SY) : Prop :=
  ∃ (L : Nat → Nat) (n : Nat) (rc sl : Int32) (pw tb mb : Nat → Int64) (mz : Nat → Int32) (lr rn : Nat → Int64) (lc gw go cl cs col lbc : Nat → Int32) (sm : Nat → Int64) (ss sr : Nat → Int32) (hi lo : Nat → Int64) (so : Nat → Int32),
    (∀ j, L j < 8) ∧ n ≤ 200 ∧ u = ((nI n), rc, sl, (sq_l L), pw, tb, mb, mz, lr, rn, lc, gw, go, cl, cs, col, lbc, sm, ss, sr, hi, lo) ∧ v = (nI n, sq_l L, so) ∧ sq_PK L n pw tb mb mz lr rn rc cl col lbc sm ss sr sl hi lo
theorem i_up {k : Nat} {u : SX} {v : SY} (h : i_Rel k u v) : i_Rel (k + 5) u v := h
theorem sq_seZ {cnt : Nat → Nat} (h : ∀ l, l < 8 → cnt l = 0) : sq_se cnt = none := by
  cases e : sq_se cnt with
  | none => rfl
  | some s =>
    obtain ⟨f, _, _, s8, _, _, ls, _, _⟩ := sq_se_some e
    have := h s s8
    omega
theorem sq_PK0 : sq_PK (fun _ => 0) 0 (fun _ => 0) (fun _ => 0) (fun _ => 0) (fun _ => 0) (fun _ => 0) (fun _ => 0) 0 (fun _ => 0) (fun _ => 0) (fun _ => 0) (fun _ => 0) (fun _ => 0) (fun _ => 0) 0 (fun _ => 0) (fun _ => 0) := by
  have b0 : ∀ P, sq_B (fun _ => 0) P = false := fun P => sq_B0 rfl
  refine ⟨fun p hp => absurd hp (Nat.not_lt_zero p), fun l _ q hq => absurd hq (Nat.not_lt_zero q), fun l _ => ⟨fun q hq => absurd hq (Nat.not_lt_zero q), ?_⟩, fun l _ p hp => absurd hp (Nat.not_lt_zero p), ⟨0, fun _ => 0, rfl, rfl, rfl, rfl, fun k hk => absurd hk (Nat.not_lt_zero k)⟩, ⟨fun _ => 0, ?_⟩, ?_⟩
  · rw [Nat.zero_sub]; rfl
  · refine ⟨⟨fun l _ hc => absurd hc (Nat.lt_irrefl 0), fun _ _ _ => rfl, fun s _ => ?_⟩, fun _ _ => rfl, fun s h1 h2 => ?_, fun l _ h1 => absurd (show 1 ≤ 0 from h1) (by decide), ⟨fun j hj => absurd hj (Nat.not_lt_zero j), fun P _ _ => b0 P⟩, fun s hs => ?_, rfl, ?_⟩
    · have : sq_K (fun _ => 0) s = 0 := sq_s0 8 (fun l _ => if_neg (show ¬ (1 ≤ 0 ∧ 0 ≤ s) by omega))
      omega
    · have : sq_n (fun _ => 0) s = 0 := sq_cnone 8 (fun j _ => decide_eq_false (show ¬ 0 = s by omega))
      rw [this]; rfl
    · have : s = 0 := by omega
      subst this
      exact ⟨rfl, fun _ _ => rfl⟩
    · show 0 = sq_bits _ 0
      unfold sq_bits
      rw [sq_seZ (cnt := fun l => sq_rk (fun _ => 0) l 0) (fun l _ => rfl)]
      rfl
  · refine ⟨fun P _ => ⟨fun h => ?_, fun ⟨q, hq, _⟩ => absurd hq (Nat.not_lt_zero q)⟩, fun q hq => absurd hq (Nat.not_lt_zero q)⟩
    rw [b0 P] at h
    exact absurd h (by decide)
theorem i_vc0 : wpX_init (fun u => wpY_init (fun v => i_Rel 0 u v)) :=
  ⟨fun _ => 0, 0, 0, 0, fun _ => 0, fun _ => 0, fun _ => 0, fun _ => 0, fun _ => 0, fun _ => 0, fun _ => 0, fun _ => 0, fun _ => 0, fun _ => 0, fun _ => 0, fun _ => 0, fun _ => 0, fun _ => 0, fun _ => 0, fun _ => 0, fun _ => 0, fun _ => 0, fun _ => 0, fun _ => show 0 < 8 by decide, by decide, rfl, rfl, sq_PK0⟩
-- ---- the checks ----
theorem sq_ltle {a b : Nat} {x : Int32} (h : nI b ≤ x) (hab : a < b) (hb : b < 2 ^ 31) : nI a < x := Int32.lt_of_lt_of_le (nI_lt hab hb) h
theorem sq_xeng0 {post : Int32 → Prop} {x : Int32} (h : x < 0 ∨ nI 7 ≤ x) (p : post 0) : wpX_isEngine post x := br_c (fun _ => p) (fun hn => br_t (h.resolve_left hn) p)
theorem sq_xeng1 {post : Int32 → Prop} {e : Nat} (he : e < 7) (p : post 1) : wpX_isEngine post (nI e) := br_f (nI_pos (by omega)) (br_f (nI_ge (b := 7) he (by decide)) p)
theorem sq_xlet0 {post : Int32 → Prop} {x : Int32} (h : x < 0 ∨ nI 8 ≤ x) (p : post 0) : wpX_isLetter post x := br_c (fun _ => p) (fun hn => br_t (h.resolve_left hn) p)
theorem sq_xlet1 {post : Int32 → Prop} {e : Nat} (he : e < 8) (p : post 1) : wpX_isLetter post (nI e) := br_f (nI_pos (by omega)) (br_f (nI_ge (b := 8) he (by decide)) p)
theorem sq_yeng0 {post : Int32 → Prop} {s : SY} {x : Int32} (h : x < 0 ∨ nI 7 ≤ x) (p : post 0) : wpY_engine post s x := br_c (fun _ => p) (fun hn => br_t (sq_ltle (a := 6) (h.resolve_left hn) (by decide) (by decide)) p)
theorem sq_yeng1 {post : Int32 → Prop} {s : SY} {e : Nat} (he : e < 7) (p : post 1) : wpY_engine post s (nI e) := br_f (nI_pos (by omega)) (br_f (nI_nlt (a := 6) (by omega) (by decide)) p)
theorem sq_ylet0 {post : Int32 → Prop} {s : SY} {x : Int32} (h : x < 0 ∨ nI 8 ≤ x) (p : post 0) : wpY_isLetter post s x := br_c (fun _ => p) (fun hn => br_t (sq_ltle (a := 7) (h.resolve_left hn) (by decide) (by decide)) p)
theorem sq_ylet1 {post : Int32 → Prop} {s : SY} {e : Nat} (he : e < 8) (p : post 1) : wpY_isLetter post s (nI e) := br_f (nI_pos (by omega)) (br_f (nI_nlt (a := 7) (by omega) (by decide)) p)
theorem sq_yplace0 {post : Int32 → Prop} {n : Nat} {li so : Nat → Int32} {x : Int32} (h : x < 0 ∨ nI n ≤ x) (p : post 0) : wpY_place post (nI n, li, so) x := br_c (fun _ => p) (fun hn => br_t (h.resolve_left hn) p)
theorem sq_yplace1 {post : Int32 → Prop} {n i : Nat} {li so : Nat → Int32} (hn : n ≤ 200) (hi : i < n) (p : post 1) : wpY_place post (nI n, li, so) (nI i) := br_f (nI_pos (by omega)) (br_f (nI_ge hi (by omega)) p)
theorem sq_yrng0 {post : Int32 → Prop} {n : Nat} {li so : Nat → Int32} {i j : Int32} (h : i < 0 ∨ j < i ∨ nI n < j) (p : post 0) : wpY_range post (nI n, li, so) i j := br_c (fun _ => p) (fun h1 => br_c (fun _ => p) (fun h2 => br_t ((h.resolve_left h1).resolve_left h2) p))
theorem sq_yrng1 {post : Int32 → Prop} {n i j : Nat} {li so : Nat → Int32} (hn : n ≤ 200) (hi : i ≤ j) (hj : j ≤ n) (p : post 1) : wpY_range post (nI n, li, so) (nI i) (nI j) := br_f (nI_pos (by omega)) (br_f (nI_nlt hi (by omega)) (br_f (nI_nlt hj (by omega)) p))
theorem sq_rngc (i j : Int32) {n : Nat} (hn : n ≤ 200) : (i < 0 ∨ j < i ∨ nI n < j) ∨ ∃ a b : Nat, a ≤ b ∧ b ≤ n ∧ i = nI a ∧ j = nI b := by
  by_cases h1 : i < 0
  · exact Or.inl (Or.inl h1)
  by_cases h2 : j < i
  · exact Or.inl (Or.inr (Or.inl h2))
  by_cases h3 : nI n < j
  · exact Or.inl (Or.inr (Or.inr h3))
  right
  obtain ⟨a, ha, rfl⟩ := nI_of h1
  have h4 : ¬ j < 0 := fun z => h2 (Int32.lt_of_lt_of_le z (nI_pos' ha))
  obtain ⟨b, hb, rfl⟩ := nI_of h4
  rw [nI_ltI hb ha] at h2
  rw [nI_ltI (by omega) hb] at h3
  exact ⟨a, b, by omega, by omega, rfl, rfl⟩
theorem sq_ix3 (x : Int32) {n : Nat} (hn : n < 2 ^ 31) : (x < 0 ∨ nI n ≤ x) ∨ ∃ j : Nat, j < n ∧ x = nI j := by
  rcases pk_ix x hn with h | h | h
  · exact Or.inl (Or.inl h)
  · exact Or.inl (Or.inr h)
  · exact Or.inr h
theorem sq_yoften {post : Int32 → Prop} {L : Nat → Nat} {n v i j : Nat} {so : Nat → Int32} (hL : ∀ j, L j < 8) (hv : v < 2 ^ 31) (hij : i ≤ j) (hj : j ≤ 200) (h : post (nI (sq_rk L v j - sq_rk L v i))) : wpY_often post (nI n, sq_l L, so) (nI v) (nI i) (nI j) :=
  pk_loop (σ := Int32) (fun n' k x4 => wY_often_6 post (nI v) (nI j) (nI n) (sq_l L) so n' x4 (nI k)) (fun k x4 => i ≤ k ∧ x4 = nI (sq_rk L v k - sq_rk L v i)) j i 0 hij ⟨Nat.le_refl i, by rw [Nat.sub_self]; rfl⟩
    (fun n' x4 e => br_t (nI_le (Nat.le_refl j) (by omega)) (sq_v (P := post) e.2 h))
    (fun n' k x4 hk e c => by
      obtain ⟨e0, e1⟩ := e
      subst e1
      have m := sq_rkmono L v e0
      have l8 := hL k
      refine br_f (nI_ge hk (by omega)) ⟨vp_in_nI (by omega) (by decide), pk_eq (L k) v (fun z => ?_) (fun z => ?_) (sq_lc L (by omega))⟩
      · exact nm_r (nI_1 _) (nm_r (nI_1 k) (c _ ⟨by omega, by rw [sq_rkt z]; exact congrArg nI (by omega)⟩))
      · exact nm_r (nI_1 k) (c _ ⟨by omega, by rw [sq_rkf z]⟩))
section
variable {f_length f_runCount f_streamLength : Int32} {a_letters : Nat → Int32} {a_plainWords a_treeBits a_matrixBits : Nat → Int64} {a_matrixZeros : Nat → Int32} {a_letterRows a_runWords : Nat → Int64} {a_letterCounts a_groupWeights a_groupOf a_codeLengths a_codes a_codesOfLength a_lettersByCode : Nat → Int32} {a_stream : Nat → Int64} {a_sampleStarts a_sampleRanks : Nat → Int32} {a_sparseHigh a_sparseLow : Nat → Int64}
theorem sq_xplace0 {post : Int32 → Prop} {n : Nat} {x : Int32} (h : x < 0 ∨ nI n ≤ x) (p : post 0) : wpX_isPlace post ((nI n), f_runCount, f_streamLength, a_letters, a_plainWords, a_treeBits, a_matrixBits, a_matrixZeros, a_letterRows, a_runWords, a_letterCounts, a_groupWeights, a_groupOf, a_codeLengths, a_codes, a_codesOfLength, a_lettersByCode, a_stream, a_sampleStarts, a_sampleRanks, a_sparseHigh, a_sparseLow) x := br_c (fun _ => p) (fun hn => br_t (h.resolve_left hn) p)
theorem sq_xplace1 {post : Int32 → Prop} {n i : Nat} (hn : n ≤ 200) (hi : i < n) (p : post 1) : wpX_isPlace post ((nI n), f_runCount, f_streamLength, a_letters, a_plainWords, a_treeBits, a_matrixBits, a_matrixZeros, a_letterRows, a_runWords, a_letterCounts, a_groupWeights, a_groupOf, a_codeLengths, a_codes, a_codesOfLength, a_lettersByCode, a_stream, a_sampleStarts, a_sampleRanks, a_sparseHigh, a_sparseLow) (nI i) := br_f (nI_pos (by omega)) (br_f (nI_ge hi (by omega)) p)
theorem sq_xrng0 {post : Int32 → Prop} {n : Nat} {i j : Int32} (h : i < 0 ∨ j < i ∨ nI n < j) (p : post 0) : wpX_isRange post ((nI n), f_runCount, f_streamLength, a_letters, a_plainWords, a_treeBits, a_matrixBits, a_matrixZeros, a_letterRows, a_runWords, a_letterCounts, a_groupWeights, a_groupOf, a_codeLengths, a_codes, a_codesOfLength, a_lettersByCode, a_stream, a_sampleStarts, a_sampleRanks, a_sparseHigh, a_sparseLow) i j := br_c (fun _ => p) (fun h1 => br_c (fun _ => p) (fun h2 => br_t ((h.resolve_left h1).resolve_left h2) p))
theorem sq_xrng1 {post : Int32 → Prop} {n i j : Nat} (hn : n ≤ 200) (hi : i ≤ j) (hj : j ≤ n) (p : post 1) : wpX_isRange post ((nI n), f_runCount, f_streamLength, a_letters, a_plainWords, a_treeBits, a_matrixBits, a_matrixZeros, a_letterRows, a_runWords, a_letterCounts, a_groupWeights, a_groupOf, a_codeLengths, a_codes, a_codesOfLength, a_lettersByCode, a_stream, a_sampleStarts, a_sampleRanks, a_sparseHigh, a_sparseLow) (nI i) (nI j) := br_f (nI_pos (by omega)) (br_f (nI_nlt hi (by omega)) (br_f (nI_nlt hj (by omega)) p))
end
theorem i_vc_at {k : Nat} {u : SX} {v : SY} (I : i_Rel k u v) (hk : k + 5 ≤ 2560) (v1 : Int32) (v2 : Int32) : wpX_at (fun r => wpY_at (fun r' => r' = r ∧ i_Rel (k + 5) u v) v v1 v2) u v1 v2 := by
  have J : i_Rel (k + 5) u v := I
  obtain ⟨L, n, rc, sl, pw, tb, mb, mz, lr, rn, lc, gw, go, cl, cs, col, lbc, sm, ss, sr, hi, lo, so, hL, hn, rfl, rfl, H⟩ := I
  unfold wpX_at wpY_at
  rcases sq_ix3 v1 (n := 7) (by decide) with h1 | ⟨e, he, rfl⟩
  · refine sq_xeng0 h1 (br_t rfl ?_)
    exact sq_yeng0 h1 (br_t rfl ⟨rfl, J⟩)
  · refine sq_xeng1 he (br_f (by decide) ?_)
    rcases sq_ix3 v2 (n := n) (by omega) with h2 | ⟨i, hi, rfl⟩
    · exact sq_xplace0 h2 (br_t rfl (sq_yeng1 he (br_f (by decide) (sq_yplace0 h2 (br_t rfl ⟨rfl, J⟩)))))
    · exact sq_xplace1 hn hi (br_f (by decide) (sq_xletterBy hL hn H he hi (sq_yeng1 he (br_f (by decide) (sq_yplace1 hn hi (br_f (by decide) ⟨vp_in_nI (by omega) (by decide), sq_lc L (by omega), J⟩))))))
theorem i_vc_rank {k : Nat} {u : SX} {v : SY} (I : i_Rel k u v) (hk : k + 5 ≤ 2560) (v1 : Int32) (v2 : Int32) (v3 : Int32) : wpX_rank (fun r => wpY_rank (fun r' => r' = r ∧ i_Rel (k + 5) u v) v v1 v2 v3) u v1 v2 v3 := by
  have J : i_Rel (k + 5) u v := I
  obtain ⟨L, n, rc, sl, pw, tb, mb, mz, lr, rn, lc, gw, go, cl, cs, col, lbc, sm, ss, sr, hi, lo, so, hL, hn, rfl, rfl, H⟩ := I
  unfold wpX_rank
  rcases sq_ix3 v1 (n := 7) (by decide) with h1 | ⟨e, he, rfl⟩
  · exact sq_xeng0 h1 (br_t rfl (by show wpY_rank _ _ _ _ _; unfold wpY_rank; exact sq_yeng0 h1 (br_t rfl ⟨rfl, J⟩)))
  · refine sq_xeng1 he (br_f (by decide) ?_)
    rcases sq_ix3 v2 (n := 8) (by decide) with h2 | ⟨l, hl, rfl⟩
    · exact sq_xlet0 h2 (br_t rfl (by show wpY_rank _ _ _ _ _; unfold wpY_rank; exact sq_yeng1 he (br_f (by decide) (sq_ylet0 h2 (br_t rfl ⟨rfl, J⟩)))))
    · refine sq_xlet1 hl (br_f (by decide) ?_)
      rcases sq_ix3 v3 (n := n + 1) (by omega) with h3 | ⟨i, hi, rfl⟩
      · have ny : wpY_rank (fun r' => r' = -1 ∧ i_Rel (k + 5) ((nI n), rc, sl, (sq_l L), pw, tb, mb, mz, lr, rn, lc, gw, go, cl, cs, col, lbc, sm, ss, sr, hi, lo) (nI n, sq_l L, so)) (nI n, sq_l L, so) (nI e) (nI l) v3 := (by show wpY_rank _ _ _ _ _; unfold wpY_rank; exact sq_yeng1 he (br_f (by decide) (sq_ylet1 hl (br_f (by decide) (sq_yrng0 (h3.elim (fun z => Or.inr (Or.inl z)) (fun z => Or.inr (Or.inr (sq_ltle z (by omega) (by omega))))) (br_t rfl ⟨rfl, J⟩))))))
        exact br_c (fun _ => ny) (fun z => br_f (fun y => Int32.lt_irrefl (Int32.lt_of_lt_of_le (sq_ltle (a := n) (h3.resolve_left z) (by omega) (by omega)) y)) ny)
      · exact br_f (nI_pos (by omega)) (br_t (nI_le (by omega) (by omega)) (sq_xrankBy hL hn H he hl (by omega) rfl (by show wpY_rank _ _ _ _ _; unfold wpY_rank; exact sq_yeng1 he (br_f (by decide) (sq_ylet1 hl (br_f (by decide) (sq_yrng1 (i := 0) hn (Nat.zero_le i) (by omega) (br_f (by decide) (sq_yoften (i := 0) hL (by omega) (Nat.zero_le i) (by omega) ⟨rfl, J⟩)))))))))
end
section
-- Part 22: select, below, ordered, most, agree (written by wip/whole/gen22.py)
theorem sq_lp : ∀ t, t < 8 → 256 / 2 ^ t = 2 * (128 / 2 ^ t) ∧ 256 / 2 ^ (t + 1) = 128 / 2 ^ t ∧ 0 < 128 / 2 ^ t ∧ 128 / 2 ^ t ≤ 128 ∧ nI (128 / 2 ^ t) >>> ((1 : Int32) &&& 31) = nI (128 / 2 ^ (t + 1)) := by decide +kernel
theorem sq_yselE {post : Int32 → Prop} {L : Nat → Nat} {n : Nat} {so : Nat → Int32} {v1 v2 v3 : Int32} (hn : n ≤ 200) (h1 : v1 < 0 ∨ nI 7 ≤ v1) (h : post (-1)) : wpY_select post (nI n, sq_l L, so) v1 v2 v3 := by
  by_cases z : n = 0
  · subst z
    exact ⟨1, br_t (by decide) h⟩
  · exact ⟨1, br_f (nI_ge (a := 0) (b := n) (by omega) (by omega)) (sq_yeng0 h1 (br_t rfl h))⟩
theorem sq_yselN {post : Int32 → Prop} {L : Nat → Nat} {n e : Nat} {so : Nat → Int32} {v2 v3 : Int32} (hL : ∀ j, L j < 8) (hn : n ≤ 200) (he : e < 7) (h2 : v2 < 0 ∨ nI 8 ≤ v2) (h : post (-1)) : wpY_select post (nI n, sq_l L, so) (nI e) v2 v3 :=
  loop_0 (σ := Unit) (fun n' i _ => wY_select_6 post (nI e) v2 v3 (nI n) (sq_l L) so n' 0 (nI i)) (fun _ _ => True) n () trivial
    (fun n' _ _ => br_t (nI_le (Nat.le_refl n) (by omega)) h)
    (fun n' i _ hi _ k => br_f (nI_ge hi (by omega)) (sq_yeng1 he (br_f (by decide) ⟨vp_in_nI (by omega) (by decide), br_f (by
      rw [sq_lc L (by omega)]
      have l8 := hL i
      intro z
      rcases h2 with y | y
      · rw [← z] at y
        exact nI_pos (by omega) y
      · rw [← z] at y
        exact nI_ge l8 (by decide) y) (nm_r (nI_1 i) (k () trivial))⟩)))
theorem sq_yselL {post : Int32 → Prop} {L : Nat → Nat} {n e l : Nat} {so : Nat → Int32} {v3 : Int32} (hL : ∀ j, L j < 8) (hn : n ≤ 200) (he : e < 7) (hl : l < 8) (hne : ∀ i, i < n → L i = l → ¬ nI (sq_rk L l i) = v3) (h : post (-1)) : wpY_select post (nI n, sq_l L, so) (nI e) (nI l) v3 :=
  loop_0 (σ := Int32) (fun n' i x4 => wY_select_6 post (nI e) (nI l) v3 (nI n) (sq_l L) so n' x4 (nI i)) (fun i x4 => x4 = nI (sq_rk L l i)) n 0 rfl
    (fun n' _ _ => br_t (nI_le (Nat.le_refl n) (by omega)) h)
    (fun n' i x4 hi z k => by
      subst z
      have l8 := hL i
      refine br_f (nI_ge hi (by omega)) (sq_yeng1 he (br_f (by decide) ⟨vp_in_nI (by omega) (by decide), pk_eq (L i) l (fun y => ?_) (fun y => ?_) (sq_lc L (by omega))⟩))
      · exact br_f (hne i hi y) (nm_r (nI_1 _) (nm_r (nI_1 i) (k _ (congrArg nI (sq_rkt y).symm))))
      · exact nm_r (nI_1 i) (k _ (congrArg nI (sq_rkf y).symm)))
theorem sq_yselS {post : Int32 → Prop} {L : Nat → Nat} {n e l p : Nat} {so : Nat → Int32} (hL : ∀ j, L j < 8) (hn : n ≤ 200) (he : e < 7) (hl : l < 8) (hp : p < n) (hlp : L p = l) (h : post (nI p)) : wpY_select post (nI n, sq_l L, so) (nI e) (nI l) (nI (sq_rk L l p)) :=
  loop_0 (σ := Int32) (fun n' i x4 => wY_select_6 post (nI e) (nI l) (nI (sq_rk L l p)) (nI n) (sq_l L) so n' x4 (nI i)) (fun i x4 => x4 = nI (sq_rk L l i)) p 0 rfl
    (fun n' x4 z => br_f (nI_ge hp (by omega)) (sq_yeng1 he (br_f (by decide) ⟨vp_in_nI (by omega) (by decide), br_t (by rw [sq_lc L (by omega), hlp]) (br_t z h)⟩)))
    (fun n' i x4 hi z k => by
      subst z
      have l8 := hL i
      have rp := sq_rkle L l p
      have ri := sq_rkle L l i
      refine br_f (nI_ge (by omega) (by omega)) (sq_yeng1 he (br_f (by decide) ⟨vp_in_nI (by omega) (by decide), pk_eq (L i) l (fun y => ?_) (fun y => ?_) (sq_lc L (by omega))⟩))
      · have lt := sq_selbef hi rfl y
        exact br_f (fun w => by rw [nI_eq (by omega) (by omega)] at w; omega) (nm_r (nI_1 _) (nm_r (nI_1 i) (k _ (congrArg nI (sq_rkt y).symm))))
      · exact nm_r (nI_1 i) (k _ (congrArg nI (sq_rkf y).symm)))
theorem sq_ybelowL {post : Int32 → Prop} {L : Nat → Nat} {n m i j : Nat} {so : Nat → Int32} (hL : ∀ j, L j < 8) (hij : i ≤ j) (hj : j ≤ 200) (hm : m ≤ 8) (h : post (nI (sq_cb L m j - sq_cb L m i))) : ∃ n', wY_below_37 post (nI j) (nI m) (nI n) (sq_l L) so n' 0 (nI i) :=
  pk_loop (σ := Int32) (fun n' k x5 => wY_below_37 post (nI j) (nI m) (nI n) (sq_l L) so n' x5 (nI k)) (fun k x5 => i ≤ k ∧ x5 = nI (sq_cb L m k - sq_cb L m i)) j i 0 hij ⟨Nat.le_refl i, by rw [Nat.sub_self]; rfl⟩
    (fun n' x5 e => br_t (nI_le (Nat.le_refl j) (by omega)) (sq_v (P := post) e.2 h))
    (fun n' k x5 hk e c => by
      obtain ⟨e0, e1⟩ := e
      subst e1
      have mo := sq_cbmono L m e0
      have l8 := hL k
      refine br_f (nI_ge hk (by omega)) ⟨vp_in_nI (by omega) (by decide), pk_le m (L k) (fun z => ?_) (fun z => ?_) rfl (sq_lc L (by omega))⟩
      · exact nm_r (nI_1 k) (c _ ⟨by omega, by rw [sq_cbf (by omega)]⟩)
      · exact nm_r (nI_1 _) (nm_r (nI_1 k) (c _ ⟨by omega, by rw [sq_cbt z]; exact congrArg nI (by omega)⟩)))
theorem sq_ybelow {post : Int32 → Prop} {L : Nat → Nat} {n e m i j : Nat} {so : Nat → Int32} (hL : ∀ j, L j < 8) (hn : n ≤ 200) (he : e < 7) (hij : i ≤ j) (hj : j ≤ n) (hm : m ≤ 8) (h : post (nI (sq_cb L m j - sq_cb L m i))) : wpY_below post (nI n, sq_l L, so) (nI e) (nI i) (nI j) (nI m) := by
  unfold wpY_below
  exact sq_yeng1 he (br_f (by decide) (sq_yrng1 hn hij hj (br_f (by decide) (br_f (nI_pos (by omega)) (br_t (nI_le (b := 8) hm (by decide)) (sq_ybelowL hL hij (by omega) hm h))))))
/-- how many of the places i .. j have a letter below m -/
def sq_D (L : Nat → Nat) (i j m : Nat) : Nat := sq_cb L m j - sq_cb L m i
theorem sq_Ds (L : Nat → Nat) {i j : Nat} (h : i ≤ j) (m : Nat) : sq_D L i j (m + 1) = sq_D L i j m + (sq_rk L m j - sq_rk L m i) := by
  unfold sq_D
  have a := sq_cbmono L m h
  have b := sq_rkmono L m h
  rw [sq_cbs, sq_cbs]
  omega
theorem sq_Dmono (L : Nat → Nat) {i j : Nat} (h : i ≤ j) {a : Nat} : ∀ b, a ≤ b → sq_D L i j a ≤ sq_D L i j b := by
  intro b
  induction b with
  | zero => intro z; rw [show a = 0 by omega]; exact Nat.le_refl _
  | succ b ih =>
    intro z
    by_cases e : a = b + 1
    · rw [e]; exact Nat.le_refl _
    · have := ih (by omega)
      rw [sq_Ds L h]
      omega
theorem sq_ordex (L : Nat → Nat) {i j q : Nat} : ∀ m, q < sq_D L i j m → ∃ a, a < m ∧ sq_D L i j a ≤ q ∧ q < sq_D L i j (a + 1) := by
  intro m
  induction m with
  | zero =>
    intro z
    have : sq_D L i j 0 = 0 := by unfold sq_D; rw [sq_cb0, sq_cb0]
    omega
  | succ m ih =>
    intro z
    by_cases e : sq_D L i j m ≤ q
    · exact ⟨m, by omega, e, z⟩
    · obtain ⟨a, h1, h2, h3⟩ := ih (by omega)
      exact ⟨a, by omega, h2, h3⟩
section
variable {f_length f_runCount f_streamLength : Int32} {a_letters : Nat → Int32} {a_plainWords a_treeBits a_matrixBits : Nat → Int64} {a_matrixZeros : Nat → Int32} {a_letterRows a_runWords : Nat → Int64} {a_letterCounts a_groupWeights a_groupOf a_codeLengths a_codes a_codesOfLength a_lettersByCode : Nat → Int32} {a_stream : Nat → Int64} {a_sampleStarts a_sampleRanks : Nat → Int32} {a_sparseHigh a_sparseLow : Nat → Int64}
theorem sq_xselL {post : Int32 → Prop} {L : Nat → Nat} {n e l q : Nat} (hL : ∀ j, L j < 8) (hn : n ≤ 200) (H : sq_PK L n a_plainWords a_treeBits a_matrixBits a_matrixZeros a_letterRows a_runWords f_runCount a_codeLengths a_codesOfLength a_lettersByCode a_stream a_sampleStarts a_sampleRanks f_streamLength a_sparseHigh a_sparseLow) (he : e < 7) (hl : l < 8) (hq : q < sq_rk L l n) (h : ∀ p, p < n → L p = l → sq_rk L l p = q → post (nI p)) : ∃ n', wX_select_44 post (nI e) (nI l) (nI q) (nI n) f_runCount f_streamLength a_letters a_plainWords a_treeBits a_matrixBits a_matrixZeros a_letterRows a_runWords a_letterCounts a_groupWeights a_groupOf a_codeLengths a_codes a_codesOfLength a_lettersByCode a_stream a_sampleStarts a_sampleRanks a_sparseHigh a_sparseLow n' 0 128 := by
  have rn := sq_rkle L l n
  exact loop_0 (σ := Int32) (fun n' t x4 => wX_select_44 post (nI e) (nI l) (nI q) (nI n) f_runCount f_streamLength a_letters a_plainWords a_treeBits a_matrixBits a_matrixZeros a_letterRows a_runWords a_letterCounts a_groupWeights a_groupOf a_codeLengths a_codes a_codesOfLength a_lettersByCode a_stream a_sampleStarts a_sampleRanks a_sparseHigh a_sparseLow n' x4 (nI (128 / 2 ^ t))) (fun t x4 => ∃ p, x4 = nI p ∧ p ≤ n ∧ sq_rk L l p ≤ q ∧ (n < p + 256 / 2 ^ t ∨ q < sq_rk L l (p + 256 / 2 ^ t))) 8 0
    ⟨0, rfl, Nat.zero_le n, Nat.zero_le q, Or.inl (by show n < 0 + 256; omega)⟩
    (fun n' x4 z => by
      obtain ⟨p, rfl, z1, z2, z3⟩ := z
      obtain ⟨y1, y2, y3⟩ := sq_selend z2 z1 z3 hq
      exact br_t (by decide) (h p y1 y2 y3))
    (fun n' t x4 ht z k => by
      obtain ⟨p, rfl, z1, z2, z3⟩ := z
      obtain ⟨d1, d2, d3, d4, d5⟩ := sq_lp t ht
      rw [d1] at z3
      refine br_f (nI_nle d3 (by omega)) (nm_r (nI_add _ _) (pk_lt n (p + 128 / 2 ^ t) (fun w => ?_) (fun w => ?_)))
      · exact nm_r d5 (k _ ⟨p, rfl, z1, z2, by rw [d2]; exact Or.inl w⟩)
      · refine sq_xrankBy hL hn H he hl w rfl ?_
        have rb := sq_rkle L l (p + 128 / 2 ^ t)
        refine pk_lt q (sq_rk L l (p + 128 / 2 ^ t)) (fun y => ?_) (fun y => ?_)
        · exact nm_r d5 (k _ ⟨p, rfl, z1, z2, by rw [d2]; exact Or.inr y⟩)
        · exact nm_r d5 (k _ ⟨p + 128 / 2 ^ t, rfl, w, y, by
            rw [d2, Nat.add_assoc, show 128 / 2 ^ t + 128 / 2 ^ t = 2 * (128 / 2 ^ t) by omega]
            exact z3⟩))
theorem sq_xbelowL {post : Int32 → Prop} {L : Nat → Nat} {n e i j m : Nat} (hL : ∀ j, L j < 8) (hn : n ≤ 200) (H : sq_PK L n a_plainWords a_treeBits a_matrixBits a_matrixZeros a_letterRows a_runWords f_runCount a_codeLengths a_codesOfLength a_lettersByCode a_stream a_sampleStarts a_sampleRanks f_streamLength a_sparseHigh a_sparseLow) (he : e < 7) (hij : i ≤ j) (hj : j ≤ n) (hm : m ≤ 8) (h : post (nI (sq_D L i j m))) : ∃ n', wX_below_36 post (nI e) (nI i) (nI j) (nI m) (nI n) f_runCount f_streamLength a_letters a_plainWords a_treeBits a_matrixBits a_matrixZeros a_letterRows a_runWords a_letterCounts a_groupWeights a_groupOf a_codeLengths a_codes a_codesOfLength a_lettersByCode a_stream a_sampleStarts a_sampleRanks a_sparseHigh a_sparseLow n' 0 0 :=
  loop_0 (σ := Int32) (fun n' l x5 => wX_below_36 post (nI e) (nI i) (nI j) (nI m) (nI n) f_runCount f_streamLength a_letters a_plainWords a_treeBits a_matrixBits a_matrixZeros a_letterRows a_runWords a_letterCounts a_groupWeights a_groupOf a_codeLengths a_codes a_codesOfLength a_lettersByCode a_stream a_sampleStarts a_sampleRanks a_sparseHigh a_sparseLow n' x5 (nI l)) (fun l x5 => x5 = nI (sq_D L i j l)) m 0 (by unfold sq_D; rw [sq_cb0, sq_cb0]; rfl)
    (fun n' x5 z => br_t (nI_le (Nat.le_refl m) (by omega)) (sq_v (P := post) z h))
    (fun n' l x5 hl z k => by
      subst z
      exact br_f (nI_ge hl (by omega)) (sq_xrankBy hL hn H he (by omega) hj rfl (sq_xrankBy hL hn H he (by omega) (by omega) rfl (nm_r (e' := nI (sq_D L i j (l + 1))) (by rw [pk_sub (sq_rkmono L l hij), nI_add, sq_Ds L hij]) (nm_r (nI_1 l) (k _ rfl))))))
theorem sq_xorderedL {post : Int32 → Prop} {L : Nat → Nat} {n e i j q a : Nat} (hL : ∀ j, L j < 8) (hn : n ≤ 200) (H : sq_PK L n a_plainWords a_treeBits a_matrixBits a_matrixZeros a_letterRows a_runWords f_runCount a_codeLengths a_codesOfLength a_lettersByCode a_stream a_sampleStarts a_sampleRanks f_streamLength a_sparseHigh a_sparseLow) (he : e < 7) (hij : i ≤ j) (hj : j ≤ n) (ha : a < 8) (hq : q ≤ 200) (h1 : sq_D L i j a ≤ q) (h2 : q < sq_D L i j (a + 1)) (h : post (nI a)) : ∃ n', wX_ordered_38 post (nI e) (nI i) (nI j) (nI n) f_runCount f_streamLength a_letters a_plainWords a_treeBits a_matrixBits a_matrixZeros a_letterRows a_runWords a_letterCounts a_groupWeights a_groupOf a_codeLengths a_codes a_codesOfLength a_lettersByCode a_stream a_sampleStarts a_sampleRanks a_sparseHigh a_sparseLow n' (nI q) 0 :=
  loop_0 (σ := Int32) (fun n' l x5 => wX_ordered_38 post (nI e) (nI i) (nI j) (nI n) f_runCount f_streamLength a_letters a_plainWords a_treeBits a_matrixBits a_matrixZeros a_letterRows a_runWords a_letterCounts a_groupWeights a_groupOf a_codeLengths a_codes a_codesOfLength a_lettersByCode a_stream a_sampleStarts a_sampleRanks a_sparseHigh a_sparseLow n' x5 (nI l)) (fun l x5 => x5 = nI (q - sq_D L i j l)) a (nI q) (by
      have : sq_D L i j 0 = 0 := by unfold sq_D; rw [sq_cb0, sq_cb0]
      rw [this, Nat.sub_zero])
    (fun n' x5 z => by
      subst z
      have r1 := sq_rkle L a j
      have d := sq_Ds L hij a
      exact br_f (nI_ge (b := 8) ha (by decide)) (sq_xrankBy hL hn H he ha hj rfl (sq_xrankBy hL hn H he ha (by omega) rfl (nm_r (pk_sub (sq_rkmono L a hij)) (br_f (nI_ge (by omega) (by omega)) h)))))
    (fun n' l x5 hl z k => by
      subst z
      have r1 := sq_rkle L l j
      have d := sq_Ds L hij l
      have mo := sq_Dmono L hij (a := l + 1) a (by omega)
      exact br_f (nI_ge (b := 8) (by omega) (by decide)) (sq_xrankBy hL hn H he (by omega) hj rfl (sq_xrankBy hL hn H he (by omega) (by omega) rfl (nm_r (pk_sub (sq_rkmono L l hij)) (br_t (nI_le (by omega) (by omega)) (nm_r (e' := nI (q - sq_D L i j (l + 1))) (by rw [pk_sub (by omega)]; exact congrArg nI (by omega)) (nm_r (nI_1 l) (k _ rfl))))))))
theorem sq_xmostL {post : Int32 → Prop} {L : Nat → Nat} {n e i j : Nat} (hL : ∀ j, L j < 8) (hn : n ≤ 200) (H : sq_PK L n a_plainWords a_treeBits a_matrixBits a_matrixZeros a_letterRows a_runWords f_runCount a_codeLengths a_codesOfLength a_lettersByCode a_stream a_sampleStarts a_sampleRanks f_streamLength a_sparseHigh a_sparseLow) (he : e < 7) (hij : i < j) (hj : j ≤ n) (h : post (nI (sq_mo (fun l => sq_rk L l j - sq_rk L l i) 8))) : ∃ n', wX_most_32 post (nI e) (nI i) (nI j) (nI n) f_runCount f_streamLength a_letters a_plainWords a_treeBits a_matrixBits a_matrixZeros a_letterRows a_runWords a_letterCounts a_groupWeights a_groupOf a_codeLengths a_codes a_codesOfLength a_lettersByCode a_stream a_sampleStarts a_sampleRanks a_sparseHigh a_sparseLow n' (-1) 0 0 :=
  loop_0 (σ := Int32 × Int32) (fun n' l x => wX_most_32 post (nI e) (nI i) (nI j) (nI n) f_runCount f_streamLength a_letters a_plainWords a_treeBits a_matrixBits a_matrixZeros a_letterRows a_runWords a_letterCounts a_groupWeights a_groupOf a_codeLengths a_codes a_codesOfLength a_lettersByCode a_stream a_sampleStarts a_sampleRanks a_sparseHigh a_sparseLow n' x.1 x.2 (nI l)) (fun l x => x.2 = nI (sq_mx (fun l => sq_rk L l j - sq_rk L l i) l) ∧ x.1 = (if sq_mx (fun l => sq_rk L l j - sq_rk L l i) l = 0 then -1 else nI (sq_mo (fun l => sq_rk L l j - sq_rk L l i) l))) 8 (-1, 0) ⟨rfl, rfl⟩
    (fun n' x z => by
      have g := sq_mxge (fun l => sq_rk L l j - sq_rk L l i) 8 (hL i)
      have g1 := sq_rkmono L (L i) (show i + 1 ≤ j by omega)
      rw [sq_rkt rfl] at g1
      have g' : sq_rk L (L i) j - sq_rk L (L i) i ≤ sq_mx (fun l => sq_rk L l j - sq_rk L l i) 8 := g
      have z2 := z.2
      rw [if_neg (by omega)] at z2
      exact br_t (nI_le (Nat.le_refl 8) (by decide)) (sq_v (P := post) z2 h))
    (fun n' l x hl z k => by
      obtain ⟨x1, x2⟩ := x
      obtain ⟨z1, z2⟩ := z
      have z1' : x2 = nI (sq_mx (fun l => sq_rk L l j - sq_rk L l i) l) := z1
      have z2' : x1 = (if sq_mx (fun l => sq_rk L l j - sq_rk L l i) l = 0 then -1 else nI (sq_mo (fun l => sq_rk L l j - sq_rk L l i) l)) := z2
      subst z1'
      have bl : ∀ m, sq_mx (fun l => sq_rk L l j - sq_rk L l i) m ≤ 200 := by
        intro m
        induction m with
        | zero => exact Nat.zero_le _
        | succ m ih =>
          show (if sq_mx (fun l => sq_rk L l j - sq_rk L l i) m < sq_rk L m j - sq_rk L m i then sq_rk L m j - sq_rk L m i else sq_mx (fun l => sq_rk L l j - sq_rk L l i) m) ≤ 200
          have := sq_rkle L m j
          split <;> omega
      have bll := bl l
      have r1 := sq_rkle L l j
      have mxs : sq_mx (fun l => sq_rk L l j - sq_rk L l i) (l + 1) = if sq_mx (fun l => sq_rk L l j - sq_rk L l i) l < sq_rk L l j - sq_rk L l i then sq_rk L l j - sq_rk L l i else sq_mx (fun l => sq_rk L l j - sq_rk L l i) l := rfl
      refine br_f (nI_ge (b := 8) hl (by decide)) (sq_xrankBy hL hn H he hl hj rfl (sq_xrankBy hL hn H he hl (by omega) rfl (nm_r (pk_sub (sq_rkmono L l (by omega))) (pk_le (sq_rk L l j - sq_rk L l i) (sq_mx (fun l => sq_rk L l j - sq_rk L l i) l) (fun w => ?_) (fun w => ?_)))))
      · refine nm_r (nI_1 l) (k (x1, _) ⟨?_, ?_⟩)
        · rw [mxs, if_neg (by omega)]
        · rw [mxs, if_neg (by omega : ¬ sq_mx (fun l => sq_rk L l j - sq_rk L l i) l < sq_rk L l j - sq_rk L l i)]
          show x1 = _
          rw [z2']
          by_cases y : sq_mx (fun l => sq_rk L l j - sq_rk L l i) l = 0
          · rw [if_pos y, if_pos y]
          · rw [if_neg y, if_neg y]
            cases l with
            | zero => exact absurd rfl y
            | succ l =>
              have mm := sq_momx (fun l => sq_rk L l j - sq_rk L l i) l
              have mos : sq_mo (fun l => sq_rk L l j - sq_rk L l i) (l + 1 + 1) = if sq_rk L (sq_mo (fun l => sq_rk L l j - sq_rk L l i) (l + 1)) j - sq_rk L (sq_mo (fun l => sq_rk L l j - sq_rk L l i) (l + 1)) i < sq_rk L (l + 1) j - sq_rk L (l + 1) i then l + 1 else sq_mo (fun l => sq_rk L l j - sq_rk L l i) (l + 1) := rfl
              rw [mos, ← mm, if_neg (by omega)]
      · refine nm_r (nI_1 l) (k (nI l, nI (sq_rk L l j - sq_rk L l i)) ⟨?_, ?_⟩)
        · rw [mxs, if_pos w]
        · rw [mxs, if_pos w, if_neg (by omega)]
          show nI l = _
          cases l with
          | zero =>
            have : sq_mo (fun l => sq_rk L l j - sq_rk L l i) (0 + 1) = 0 := Nat.le_zero.mp (sq_mole _ 0)
            rw [this]
          | succ l =>
            have mm := sq_momx (fun l => sq_rk L l j - sq_rk L l i) l
            have mos : sq_mo (fun l => sq_rk L l j - sq_rk L l i) (l + 1 + 1) = if sq_rk L (sq_mo (fun l => sq_rk L l j - sq_rk L l i) (l + 1)) j - sq_rk L (sq_mo (fun l => sq_rk L l j - sq_rk L l i) (l + 1)) i < sq_rk L (l + 1) j - sq_rk L (l + 1) i then l + 1 else sq_mo (fun l => sq_rk L l j - sq_rk L l i) (l + 1) := rfl
            rw [mos, ← mm, if_pos w])
theorem sq_xagreeL {post : Int32 → Prop} {L : Nat → Nat} {n e f : Nat} (hL : ∀ j, L j < 8) (hn : n ≤ 200) (H : sq_PK L n a_plainWords a_treeBits a_matrixBits a_matrixZeros a_letterRows a_runWords f_runCount a_codeLengths a_codesOfLength a_lettersByCode a_stream a_sampleStarts a_sampleRanks f_streamLength a_sparseHigh a_sparseLow) (he : e < 7) (hf : f < 7) (h : post 1) : ∃ n', wX_agree_18 post (nI e) (nI f) (nI n) f_runCount f_streamLength a_letters a_plainWords a_treeBits a_matrixBits a_matrixZeros a_letterRows a_runWords a_letterCounts a_groupWeights a_groupOf a_codeLengths a_codes a_codesOfLength a_lettersByCode a_stream a_sampleStarts a_sampleRanks a_sparseHigh a_sparseLow n' 0 :=
  loop_0 (σ := Unit) (fun n' p _ => wX_agree_18 post (nI e) (nI f) (nI n) f_runCount f_streamLength a_letters a_plainWords a_treeBits a_matrixBits a_matrixZeros a_letterRows a_runWords a_letterCounts a_groupWeights a_groupOf a_codeLengths a_codes a_codesOfLength a_lettersByCode a_stream a_sampleStarts a_sampleRanks a_sparseHigh a_sparseLow n' (nI p)) (fun _ _ => True) n () trivial
    (fun n' _ _ => br_t (nI_le (Nat.le_refl n) (by omega)) (loop_0 (σ := Unit) (fun n' l _ => wX_agree_51 post (nI e) (nI f) (nI n) f_runCount f_streamLength a_letters a_plainWords a_treeBits a_matrixBits a_matrixZeros a_letterRows a_runWords a_letterCounts a_groupWeights a_groupOf a_codeLengths a_codes a_codesOfLength a_lettersByCode a_stream a_sampleStarts a_sampleRanks a_sparseHigh a_sparseLow n' (nI l)) (fun _ _ => True) 8 () trivial
      (fun n' _ _ => br_t (nI_le (Nat.le_refl 8) (by decide)) h)
      (fun n' l _ hl _ k => br_f (nI_ge (b := 8) hl (by decide)) (loop_0 (σ := Unit) (fun n'' p _ => wX_agree_60 post (wX_agree_51 post (nI e) (nI f) (nI n) f_runCount f_streamLength a_letters a_plainWords a_treeBits a_matrixBits a_matrixZeros a_letterRows a_runWords a_letterCounts a_groupWeights a_groupOf a_codeLengths a_codes a_codesOfLength a_lettersByCode a_stream a_sampleStarts a_sampleRanks a_sparseHigh a_sparseLow n') (nI e) (nI f) (nI l) (nI n) f_runCount f_streamLength a_letters a_plainWords a_treeBits a_matrixBits a_matrixZeros a_letterRows a_runWords a_letterCounts a_groupWeights a_groupOf a_codeLengths a_codes a_codesOfLength a_lettersByCode a_stream a_sampleStarts a_sampleRanks a_sparseHigh a_sparseLow n'' (nI p)) (fun _ _ => True) (n + 1) () trivial
        (fun n'' _ _ => br_t (nI_lt (by omega) (by omega)) (nm_r (nI_1 l) (k () trivial)))
        (fun n'' p _ hp _ c => br_f (nI_nlt (by omega) (by omega)) (sq_xrankBy hL hn H he hl (by omega) rfl (sq_xrankBy hL hn H hf hl (by omega) rfl (br_t rfl (nm_r (nI_1 p) (c () trivial))))))))))
    (fun n' p _ hp _ k => br_f (nI_ge hp (by omega)) (sq_xletterBy hL hn H he hp (sq_xletterBy hL hn H hf hp (br_t rfl (nm_r (nI_1 p) (k () trivial))))))
end
end
section
-- Part 23: the owed statements of the reading methods (written by wip/whole/gen23.py)
theorem sq_nlem {m : Nat} {x : Int32} (h : nI (m + 1) ≤ x) (hm : m + 1 < 2 ^ 31) : ¬ x ≤ nI m := fun y => Int32.lt_irrefl (Int32.lt_of_lt_of_le (sq_ltle (a := m) h (by omega) hm) y)
theorem sq_ybelowx {post : Int32 → Prop} {L : Nat → Nat} {n e m i j : Nat} {so : Nat → Int32} {x : Int32} (hx : x = nI m) (hL : ∀ j, L j < 8) (hn : n ≤ 200) (he : e < 7) (hij : i ≤ j) (hj : j ≤ n) (hm : m ≤ 8) (h : post (nI (sq_cb L m j - sq_cb L m i))) : wpY_below post (nI n, sq_l L, so) (nI e) (nI i) (nI j) x := by
  subst hx
  exact sq_ybelow hL hn he hij hj hm h
theorem sq_yordL {post : Int32 → Prop} {L : Nat → Nat} {n e i j q a : Nat} {so : Nat → Int32} (hL : ∀ j, L j < 8) (hn : n ≤ 200) (he : e < 7) (hij : i ≤ j) (hj : j ≤ n) (ha : a < 8) (hq : q ≤ 200) (h1 : sq_D L i j a ≤ q) (h2 : q < sq_D L i j (a + 1)) (h : post (nI a)) : ∃ n', wY_ordered_35 post (nI e) (nI i) (nI j) (nI q) (nI n) (sq_l L) so n' 0 := by
  have db : ∀ m, sq_D L i j m ≤ 200 := fun m => by
    have := sq_cble L m j
    unfold sq_D
    omega
  exact loop_0 (σ := Unit) (fun n' l _ => wY_ordered_35 post (nI e) (nI i) (nI j) (nI q) (nI n) (sq_l L) so n' (nI l)) (fun _ _ => True) a () trivial
    (fun n' _ _ => by
      rw [wY_ordered_35]
      refine sq_ybelowx (nI_1 a) hL hn he hij hj (by omega) ?_
      have := db (a + 1)
      exact br_t (nI_lt (b := sq_D L i j (a + 1)) h2 (by omega)) h)
    (fun n' l _ hl _ k => by
      have mo := sq_Dmono L hij (a := l + 1) a (by omega)
      rw [wY_ordered_35]
      exact sq_ybelowx (nI_1 l) hL hn he hij hj (by omega) (br_f (nI_nlt (a := q) (b := sq_D L i j (l + 1)) (by omega) (by omega)) (nm_r (nI_1 l) (k () trivial))))
theorem sq_ymostL {post : Int32 → Prop} {L : Nat → Nat} {n i j : Nat} {so : Nat → Int32} (hL : ∀ j, L j < 8) (hij : i ≤ j) (hj : j ≤ 200) (h : post (nI (sq_mo (fun l => sq_rk L l j - sq_rk L l i) 8))) : ∃ n', wY_most_30 post (nI i) (nI j) (nI n) (sq_l L) so n' 0 1 :=
  pk_loop (σ := Int32) (fun n' l x4 => wY_most_30 post (nI i) (nI j) (nI n) (sq_l L) so n' x4 (nI l)) (fun l x4 => 1 ≤ l ∧ x4 = nI (sq_mo (fun l => sq_rk L l j - sq_rk L l i) l)) 8 1 0 (by decide) ⟨Nat.le_refl 1, by
      have : sq_mo (fun l => sq_rk L l j - sq_rk L l i) (0 + 1) = 0 := Nat.le_zero.mp (sq_mole _ 0)
      rw [show (1 : Nat) = 0 + 1 from rfl, this]
      rfl⟩
    (fun n' x4 e => br_t (nI_le (Nat.le_refl 8) (by decide)) (sq_v (P := post) e.2 h))
    (fun n' l x4 hl e k => by
      obtain ⟨e0, e1⟩ := e
      subst e1
      have ml : sq_mo (fun l => sq_rk L l j - sq_rk L l i) l < 8 := by
        have := sq_mole (fun l => sq_rk L l j - sq_rk L l i) (l - 1)
        rw [show l - 1 + 1 = l by omega] at this
        omega
      have mos : sq_mo (fun l => sq_rk L l j - sq_rk L l i) (l + 1) = if sq_rk L (sq_mo (fun l => sq_rk L l j - sq_rk L l i) l) j - sq_rk L (sq_mo (fun l => sq_rk L l j - sq_rk L l i) l) i < sq_rk L l j - sq_rk L l i then l else sq_mo (fun l => sq_rk L l j - sq_rk L l i) l := rfl
      have b1 := sq_rkle L l j
      have b2 := sq_rkle L (sq_mo (fun l => sq_rk L l j - sq_rk L l i) l) j
      refine br_f (nI_ge (b := 8) hl (by decide)) (sq_yoften hL (by omega) hij hj (sq_yoften hL (by omega) hij hj (pk_le (sq_rk L l j - sq_rk L l i) (sq_rk L (sq_mo (fun l => sq_rk L l j - sq_rk L l i) l) j - sq_rk L (sq_mo (fun l => sq_rk L l j - sq_rk L l i) l) i) (fun z => ?_) (fun z => ?_))))
      · exact nm_r (nI_1 l) (k _ ⟨by omega, by rw [mos, if_neg (by omega)]⟩)
      · exact nm_r (nI_1 l) (k _ ⟨by omega, by rw [mos, if_pos z]⟩))

theorem i_vc_select {k : Nat} {u : SX} {v : SY} (I : i_Rel k u v) (hk : k + 5 ≤ 2560) (v1 : Int32) (v2 : Int32) (v3 : Int32) : wpX_select (fun r => wpY_select (fun r' => r' = r ∧ i_Rel (k + 5) u v) v v1 v2 v3) u v1 v2 v3 := by
  have J : i_Rel (k + 5) u v := I
  obtain ⟨L, n, rc, sl, pw, tb, mb, mz, lr, rn, lc, gw, go, cl, cs, col, lbc, sm, ss, sr, hi, lo, so, hL, hn, rfl, rfl, H⟩ := I
  unfold wpX_select
  rcases sq_ix3 v1 (n := 7) (by decide) with h1 | ⟨e, he, rfl⟩
  · exact sq_xeng0 h1 (br_t rfl (sq_yselE hn h1 ⟨rfl, J⟩))
  · refine sq_xeng1 he (br_f (by decide) ?_)
    rcases sq_ix3 v2 (n := 8) (by decide) with h2 | ⟨l, hl, rfl⟩
    · exact sq_xlet0 h2 (br_t rfl (sq_yselN hL hn he h2 ⟨rfl, J⟩))
    · refine sq_xlet1 hl (br_f (by decide) ?_)
      by_cases h3 : v3 < 0
      · exact br_f (fun z => Int32.lt_irrefl (Int32.lt_of_lt_of_le h3 z)) (sq_yselL hL hn he hl (fun i hi _ w => by
          have := sq_rkle L l i
          rw [← w] at h3
          exact nI_pos (by omega) h3) ⟨rfl, J⟩)
      · obtain ⟨q, hq, rfl⟩ := nI_of h3
        have rn' := sq_rkle L l n
        refine br_t (nI_pos' hq) (sq_xrankBy hL hn H he hl (Nat.le_refl n) rfl (pk_lt q (sq_rk L l n) (fun w => ?_) (fun w => ?_)))
        · exact sq_xselL hL hn H he hl w (fun p y1 y2 y3 => by
            subst y3
            exact sq_yselS hL hn he hl y1 y2 ⟨rfl, J⟩)
        · exact sq_yselL hL hn he hl (fun i hi hli z => by
            have a1 := sq_rkmono L l (show i + 1 ≤ n by omega)
            rw [sq_rkt hli] at a1
            rw [nI_eq (by omega) hq] at z
            omega) ⟨rfl, J⟩
theorem i_vc_below {k : Nat} {u : SX} {v : SY} (I : i_Rel k u v) (hk : k + 5 ≤ 2560) (v1 : Int32) (v2 : Int32) (v3 : Int32) (v4 : Int32) : wpX_below (fun r => wpY_below (fun r' => r' = r ∧ i_Rel (k + 5) u v) v v1 v2 v3 v4) u v1 v2 v3 v4 := by
  have J : i_Rel (k + 5) u v := I
  obtain ⟨L, n, rc, sl, pw, tb, mb, mz, lr, rn, lc, gw, go, cl, cs, col, lbc, sm, ss, sr, hi, lo, so, hL, hn, rfl, rfl, H⟩ := I
  unfold wpX_below
  rcases sq_ix3 v1 (n := 7) (by decide) with h1 | ⟨e, he, rfl⟩
  · exact sq_xeng0 h1 (br_t rfl (by show wpY_below _ _ _ _ _ _; unfold wpY_below; exact sq_yeng0 h1 (br_t rfl ⟨rfl, J⟩)))
  · refine sq_xeng1 he (br_f (by decide) ?_)
    rcases sq_rngc v2 v3 hn with h2 | ⟨i, j, hij, hj, rfl, rfl⟩
    · exact sq_xrng0 h2 (br_t rfl (by show wpY_below _ _ _ _ _ _; unfold wpY_below; exact sq_yeng1 he (br_f (by decide) (sq_yrng0 h2 (br_t rfl ⟨rfl, J⟩)))))
    · refine sq_xrng1 hn hij hj (br_f (by decide) ?_)
      rcases sq_ix3 v4 (n := 9) (by decide) with h4 | ⟨m, hm, rfl⟩
      · have ny : wpY_below (fun r' => r' = -1 ∧ i_Rel (k + 5) ((nI n), rc, sl, (sq_l L), pw, tb, mb, mz, lr, rn, lc, gw, go, cl, cs, col, lbc, sm, ss, sr, hi, lo) (nI n, sq_l L, so)) (nI n, sq_l L, so) (nI e) (nI i) (nI j) v4 := (by show wpY_below _ _ _ _ _ _; unfold wpY_below; exact sq_yeng1 he (br_f (by decide) (sq_yrng1 hn hij hj (br_f (by decide) (br_c (fun _ => ⟨rfl, J⟩) (fun z => br_f (sq_nlem (m := 8) (h4.resolve_left z) (by decide)) ⟨rfl, J⟩))))))
        exact br_c (fun _ => ny) (fun z => br_f (sq_nlem (m := 8) (h4.resolve_left z) (by decide)) ny)
      · exact br_f (nI_pos (by omega)) (br_t (nI_le (b := 8) (by omega) (by decide)) (sq_xbelowL hL hn H he hij hj (by omega) (sq_ybelow hL hn he hij hj (by omega) ⟨rfl, J⟩)))
theorem i_vc_ordered {k : Nat} {u : SX} {v : SY} (I : i_Rel k u v) (hk : k + 5 ≤ 2560) (v1 : Int32) (v2 : Int32) (v3 : Int32) (v4 : Int32) : wpX_ordered (fun r => wpY_ordered (fun r' => r' = r ∧ i_Rel (k + 5) u v) v v1 v2 v3 v4) u v1 v2 v3 v4 := by
  have J : i_Rel (k + 5) u v := I
  obtain ⟨L, n, rc, sl, pw, tb, mb, mz, lr, rn, lc, gw, go, cl, cs, col, lbc, sm, ss, sr, hi, lo, so, hL, hn, rfl, rfl, H⟩ := I
  unfold wpX_ordered
  rcases sq_ix3 v1 (n := 7) (by decide) with h1 | ⟨e, he, rfl⟩
  · exact sq_xeng0 h1 (br_t rfl (by show wpY_ordered _ _ _ _ _ _; unfold wpY_ordered; exact sq_yeng0 h1 (br_t rfl ⟨rfl, J⟩)))
  · refine sq_xeng1 he (br_f (by decide) ?_)
    rcases sq_rngc v2 v3 hn with h2 | ⟨i, j, hij, hj, rfl, rfl⟩
    · exact sq_xrng0 h2 (br_t rfl (by show wpY_ordered _ _ _ _ _ _; unfold wpY_ordered; exact sq_yeng1 he (br_f (by decide) (sq_yrng0 h2 (br_t rfl ⟨rfl, J⟩)))))
    · refine sq_xrng1 hn hij hj (br_f (by decide) ?_)
      by_cases h4 : v4 < 0
      · exact br_t h4 (by show wpY_ordered _ _ _ _ _ _; unfold wpY_ordered; exact sq_yeng1 he (br_f (by decide) (sq_yrng1 hn hij hj (br_f (by decide) (br_t h4 ⟨rfl, J⟩)))))
      · obtain ⟨q, hq, rfl⟩ := nI_of h4
        refine br_f h4 (pk_lt q (j - i) (fun w => ?_) (fun w => ?_) rfl (pk_sub hij))
        · have d8 : sq_D L i j 8 = j - i := by unfold sq_D; rw [sq_cb8 hL, sq_cb8 hL]
          obtain ⟨a, a1, a2, a3⟩ := sq_ordex L (i := i) (j := j) (q := q) 8 (by omega)
          exact sq_xorderedL hL hn H he hij hj a1 (by omega) a2 a3 (by show wpY_ordered _ _ _ _ _ _; unfold wpY_ordered; exact sq_yeng1 he (br_f (by decide) (sq_yrng1 hn hij hj (br_f (by decide) (br_f h4 (br_t (by rw [pk_sub hij]; exact nI_lt w (by omega)) (sq_yordL hL hn he hij hj a1 (by omega) a2 a3 ⟨rfl, J⟩)))))))
        · exact (by show wpY_ordered _ _ _ _ _ _; unfold wpY_ordered; exact sq_yeng1 he (br_f (by decide) (sq_yrng1 hn hij hj (br_f (by decide) (br_f h4 (br_f (by rw [pk_sub hij]; exact nI_nlt w hq) ⟨rfl, J⟩))))))
theorem i_vc_most {k : Nat} {u : SX} {v : SY} (I : i_Rel k u v) (hk : k + 5 ≤ 2560) (v1 : Int32) (v2 : Int32) (v3 : Int32) : wpX_most (fun r => wpY_most (fun r' => r' = r ∧ i_Rel (k + 5) u v) v v1 v2 v3) u v1 v2 v3 := by
  have J : i_Rel (k + 5) u v := I
  obtain ⟨L, n, rc, sl, pw, tb, mb, mz, lr, rn, lc, gw, go, cl, cs, col, lbc, sm, ss, sr, hi, lo, so, hL, hn, rfl, rfl, H⟩ := I
  unfold wpX_most
  rcases sq_ix3 v1 (n := 7) (by decide) with h1 | ⟨e, he, rfl⟩
  · exact sq_xeng0 h1 (br_t rfl (by show wpY_most _ _ _ _ _; unfold wpY_most; exact sq_yeng0 h1 (br_t rfl ⟨rfl, J⟩)))
  · refine sq_xeng1 he (br_f (by decide) ?_)
    rcases sq_rngc v2 v3 hn with h2 | ⟨i, j, hij, hj, rfl, rfl⟩
    · exact sq_xrng0 h2 (br_t rfl (by show wpY_most _ _ _ _ _; unfold wpY_most; exact sq_yeng1 he (br_f (by decide) (sq_yrng0 h2 (br_t rfl ⟨rfl, J⟩)))))
    · refine sq_xrng1 hn hij hj (br_f (by decide) ?_)
      refine pk_eq i j (fun w => ?_) (fun w => ?_)
      · exact (by show wpY_most _ _ _ _ _; unfold wpY_most; exact sq_yeng1 he (br_f (by decide) (sq_yrng1 hn hij hj (br_f (by decide) (br_t (by rw [w]) ⟨rfl, J⟩)))))
      · exact sq_xmostL hL hn H he (by omega) hj (by show wpY_most _ _ _ _ _; unfold wpY_most; exact sq_yeng1 he (br_f (by decide) (sq_yrng1 hn hij hj (br_f (by decide) (br_f (fun z => w ((nI_eq (by omega) (by omega)).mp z)) (sq_ymostL hL hij (by omega) ⟨rfl, J⟩))))))
theorem i_vc_agree {k : Nat} {u : SX} {v : SY} (I : i_Rel k u v) (hk : k + 5 ≤ 2560) (v1 : Int32) (v2 : Int32) : wpX_agree (fun r => wpY_agree (fun r' => r' = r ∧ i_Rel (k + 5) u v) v v1 v2) u v1 v2 := by
  have J : i_Rel (k + 5) u v := I
  obtain ⟨L, n, rc, sl, pw, tb, mb, mz, lr, rn, lc, gw, go, cl, cs, col, lbc, sm, ss, sr, hi, lo, so, hL, hn, rfl, rfl, H⟩ := I
  unfold wpX_agree
  rcases sq_ix3 v1 (n := 7) (by decide) with h1 | ⟨e, he, rfl⟩
  · exact sq_xeng0 h1 (br_t rfl (by show wpY_agree _ _ _ _; unfold wpY_agree; exact sq_yeng0 h1 (br_t rfl ⟨rfl, J⟩)))
  · refine sq_xeng1 he (br_f (by decide) ?_)
    rcases sq_ix3 v2 (n := 7) (by decide) with h2 | ⟨f, hf, rfl⟩
    · exact sq_xeng0 h2 (br_t rfl (by show wpY_agree _ _ _ _; unfold wpY_agree; exact sq_yeng1 he (br_f (by decide) (sq_yeng0 h2 (br_t rfl ⟨rfl, J⟩)))))
    · exact sq_xeng1 hf (br_f (by decide) (sq_xagreeL hL hn H he hf (by show wpY_agree _ _ _ _; unfold wpY_agree; exact sq_yeng1 he (br_f (by decide) (sq_yeng1 hf (br_f (by decide) ⟨rfl, J⟩))))))
end
section
-- Part 24: different, next, runs, bits (written by wip/whole/gen24.py)
theorem sq_pc8 {s : Nat} (hs : s < 256) : sq_pc (lN s) = sq_c (fun l => s.testBit l) 8 := by
  unfold sq_pc
  rw [sq_uNl (by omega), show (64 : Nat) = 8 + 56 from rfl, sq_cadd]
  have z : sq_c (fun q => s.testBit (8 + q)) 56 = 0 := sq_cnone 56 (fun j _ => Nat.testBit_lt_two_pow (Nat.lt_of_lt_of_le hs (Nat.pow_le_pow_right (n := 2) (i := 8) (by decide) (by omega))))
  rw [z, Nat.add_zero]
theorem sq_ydiff0 {post : Int32 → Prop} {L : Nat → Nat} {n : Nat} {so : Nat → Int32} {i j : Int32} (h2 : i < 0 ∨ j < i ∨ nI n < j) (h : post (-1)) : wpY_different post (nI n, sq_l L, so) i j :=
  ⟨1, br_f (by decide) (sq_yrng0 h2 (br_t rfl (sq_yrng0 h2 (br_t rfl h))))⟩
theorem sq_ydiff {post : Int32 → Prop} {L : Nat → Nat} {n i j : Nat} {so : Nat → Int32} (hL : ∀ j, L j < 8) (hn : n ≤ 200) (hij : i ≤ j) (hj : j ≤ n) (h : post (nI (sq_c (fun l => decide (sq_rk L l i < sq_rk L l j)) 8))) : wpY_different post (nI n, sq_l L, so) (nI i) (nI j) :=
  loop_0 (σ := Int32) (fun n' l x3 => wY_different_5 post (nI i) (nI j) (nI n) (sq_l L) so n' x3 (nI l)) (fun l x3 => x3 = nI (sq_c (fun l => decide (sq_rk L l i < sq_rk L l j)) l)) 8 0 rfl
    (fun n' x3 e => br_t (nI_le (Nat.le_refl 8) (by decide)) (sq_yrng1 hn hij hj (br_f (by decide) (sq_v (P := post) e h))))
    (fun n' l x3 hl e k => by
      subst e
      have b1 := sq_rkle L l j
      have b2 := sq_rkmono L l hij
      refine br_f (nI_ge (b := 8) hl (by decide)) (sq_yrng1 hn hij hj (br_f (by decide) (sq_yoften hL (by omega) hij (by omega) (pk_le (sq_rk L l j - sq_rk L l i) 0 (fun z => ?_) (fun z => ?_)))))
      · exact nm_r (nI_1 l) (k _ (by rw [sq_cf (decide_eq_false (by omega))]))
      · exact nm_r (nI_1 _) (nm_r (nI_1 l) (k _ (by rw [sq_ct (decide_eq_true (by omega))]))))
theorem sq_find (L : Nat → Nat) (l b : Nat) : ∀ n, (∃ p, b ≤ p ∧ p < n ∧ L p = l ∧ ∀ q, b ≤ q → q < p → L q ≠ l) ∨ ∀ q, b ≤ q → q < n → L q ≠ l := by
  intro n
  induction n with
  | zero => exact Or.inr (fun q _ h => by omega)
  | succ n ih =>
    rcases ih with ⟨p, h1, h2, h3, h4⟩ | h
    · exact Or.inl ⟨p, h1, by omega, h3, h4⟩
    · by_cases z : b ≤ n ∧ L n = l
      · exact Or.inl ⟨n, z.1, by omega, z.2, h⟩
      · refine Or.inr (fun q h1 h2 => ?_)
        by_cases y : q = n
        · subst y
          exact fun w => z ⟨h1, w⟩
        · exact h q h1 (by omega)
theorem sq_ynextN {post : Int32 → Prop} {L : Nat → Nat} {n : Nat} {so : Nat → Int32} {v1 v2 : Int32} (hL : ∀ j, L j < 8) (hn : n ≤ 200) (h1 : v1 < 0 ∨ nI 8 ≤ v1) (h : post (-1)) : wpY_next post (nI n, sq_l L, so) v1 v2 :=
  loop_0 (σ := Unit) (fun n' i _ => wY_next_2 post v1 v2 (nI n) (sq_l L) so n' (nI i)) (fun _ _ => True) n () trivial
    (fun n' _ _ => br_t (nI_le (Nat.le_refl n) (by omega)) h)
    (fun n' i _ hi _ k => br_f (nI_ge hi (by omega)) (br_c (fun _ => nm_r (nI_1 i) (k () trivial)) (fun _ => ⟨vp_in_nI (by omega) (by decide), br_f (by
      rw [sq_lc L (by omega)]
      have l8 := hL i
      intro z
      rcases h1 with y | y
      · rw [← z] at y
        exact nI_pos (by omega) y
      · rw [← z] at y
        exact nI_ge l8 (by decide) y) (nm_r (nI_1 i) (k () trivial))⟩)))
theorem sq_ynextF {post : Int32 → Prop} {L : Nat → Nat} {n l b p : Nat} {so : Nat → Int32} {v2 : Int32} (hL : ∀ j, L j < 8) (hn : n ≤ 200) (hl : l < 8) (hb : ∀ q, q < 200 → (nI q < v2 ↔ q < b)) (h1 : b ≤ p) (h2 : p < n) (h3 : L p = l) (h4 : ∀ q, b ≤ q → q < p → L q ≠ l) (h : post (nI p)) : wpY_next post (nI n, sq_l L, so) (nI l) v2 :=
  loop_0 (σ := Unit) (fun n' i _ => wY_next_2 post (nI l) v2 (nI n) (sq_l L) so n' (nI i)) (fun _ _ => True) p () trivial
    (fun n' _ _ => br_f (nI_ge h2 (by omega)) (br_f (fun z => by have := (hb p (by omega)).mp z; omega) ⟨vp_in_nI (by omega) (by decide), br_t (by rw [sq_lc L (by omega), h3]) h⟩))
    (fun n' i _ hi _ k => br_f (nI_ge (by omega) (by omega)) (br_c (fun _ => nm_r (nI_1 i) (k () trivial)) (fun z => ⟨vp_in_nI (by omega) (by decide), br_f (fun w => by
      rw [sq_lc L (by omega)] at w
      have l8 := hL i
      rw [nI_eq (by omega) (by omega)] at w
      have : ¬ i < b := fun y => z ((hb i (by omega)).mpr y)
      exact h4 i (by omega) hi w) (nm_r (nI_1 i) (k () trivial))⟩)))
theorem sq_ynext0 {post : Int32 → Prop} {L : Nat → Nat} {n l b : Nat} {so : Nat → Int32} {v2 : Int32} (hL : ∀ j, L j < 8) (hn : n ≤ 200) (hl : l < 8) (hb : ∀ q, q < 200 → (nI q < v2 ↔ q < b)) (h4 : ∀ q, b ≤ q → q < n → L q ≠ l) (h : post (-1)) : wpY_next post (nI n, sq_l L, so) (nI l) v2 :=
  loop_0 (σ := Unit) (fun n' i _ => wY_next_2 post (nI l) v2 (nI n) (sq_l L) so n' (nI i)) (fun _ _ => True) n () trivial
    (fun n' _ _ => br_t (nI_le (Nat.le_refl n) (by omega)) h)
    (fun n' i _ hi _ k => br_f (nI_ge (by omega) (by omega)) (br_c (fun _ => nm_r (nI_1 i) (k () trivial)) (fun z => ⟨vp_in_nI (by omega) (by decide), br_f (fun w => by
      rw [sq_lc L (by omega)] at w
      have l8 := hL i
      rw [nI_eq (by omega) (by omega)] at w
      have : ¬ i < b := fun y => z ((hb i (by omega)).mpr y)
      exact h4 i (by omega) hi w) (nm_r (nI_1 i) (k () trivial))⟩)))
theorem sq_yruns {post : Int32 → Prop} {L : Nat → Nat} {n : Nat} {so : Nat → Int32} (hL : ∀ j, L j < 8) (hn : n ≤ 200) (h : post (nI (sq_c (sq_ch L) n))) : wpY_runs post (nI n, sq_l L, so) :=
  loop_0 (σ := Int32) (fun n' i x1 => wY_runs_4 post (nI n) (sq_l L) so n' x1 (nI i)) (fun i x1 => x1 = nI (sq_c (sq_ch L) i)) n 0 rfl
    (fun n' x1 e => br_t (nI_le (Nat.le_refl n) (by omega)) (sq_v (P := post) e h))
    (fun n' i x1 hi e k => by
      subst e
      refine br_f (nI_ge hi (by omega)) (pk_eq i 0 (fun z => ?_) (fun z => ?_))
      · exact nm_r (nI_1 _) (nm_r (nI_1 i) (k _ (congrArg nI (sq_ct (decide_eq_true (Or.inl z))).symm)))
      · have e1 : nI i - 1 = nI (i - 1) := pk_sub (b := 1) (by omega)
        have l8 := hL i
        have m8 := hL (i - 1)
        refine ⟨vp_in_nI (by omega) (by decide), by rw [e1]; exact vp_in_nI (by omega) (by decide), pk_eq (L i) (L (i - 1)) (fun w => ?_) (fun w => ?_) (sq_lc L (by omega)) (by rw [e1]; exact sq_lc L (by omega))⟩
        · exact nm_r (nI_1 i) (k _ (congrArg nI (sq_cf (decide_eq_false (fun y => y.elim z (fun y => y w)))).symm))
        · exact nm_r (nI_1 _) (nm_r (nI_1 i) (k _ (congrArg nI (sq_ct (decide_eq_true (Or.inr w))).symm))))
theorem sq_yrarest {post : Int32 → Prop} {n : Nat} {li so : Nat → Int32} {w : Nat → Nat} {e : Option Nat} (hw : ∀ g, g < 8 → so g = nI (w g) ∧ w g ≤ 200) (he : ∀ m, e = some m → m < 8) (h : post (sq_op (sq_li w e 8))) : wpY_rarest post (nI n, li, so) (sq_op e) :=
  loop_0 (σ := Int32) (fun n' g x2 => wY_rarest_4 post (sq_op e) (nI n) li so n' x2 (nI g)) (fun g x2 => x2 = sq_op (sq_li w e g)) 8 (-1) rfl
    (fun n' x2 z => br_t (nI_le (Nat.le_refl 8) (by decide)) (sq_v (P := post) z h))
    (fun n' g x2 hg z k => by
      subst z
      have cl : (nI g).toNatClampNeg = g := nI_clamp (by omega)
      obtain ⟨w1, w2⟩ := hw g hg
      have oe := sq_opeq (e := e) (g := g) (by omega) (fun m hm => by have := he m hm; omega)
      have hin : vp_in (nI g) 8 := vp_in_nI hg (by decide)
      refine br_f (nI_ge (b := 8) hg (by decide)) ⟨hin, pk_le (w g) 0 (fun y => ?_) (fun y => br_c (fun z => ?_) (fun z => ?_)) (by rw [cl]; exact w1)⟩
      · exact br_t rfl (nm_r (nI_1 g) (k _ (congrArg sq_op (sq_li_skip (Or.inr (by omega))).symm)))
      · exact br_t rfl (nm_r (nI_1 g) (k _ (congrArg sq_op (sq_li_skip (Or.inl (oe.mp z))).symm)))
      · refine br_f (by decide) ?_
        have hno : ¬ (e = some g ∨ w g = 0) := fun q => q.elim (fun q => z (oe.mpr q)) (by omega)
        cases hl : sq_li w e g with
        | none => exact br_t (by decide) (nm_r (nI_1 g) (k _ (by rw [sq_li_new hno hl]; rfl)))
        | some m =>
          have hm := sq_li8 hl
          obtain ⟨v1, v2⟩ := hw m (by omega)
          have clm : (nI m).toNatClampNeg = m := nI_clamp (by omega)
          refine br_f (nI_pos (by omega)) ⟨hin, vp_in_nI (by omega) (by decide), pk_le (w m) (w g) (fun q => ?_) (fun q => ?_) (by show so (nI m).toNatClampNeg = _; rw [clm, v1]) (by rw [cl]; exact w1)⟩
          · exact nm_r (nI_1 g) (k _ (by rw [sq_li_keep hl (by omega)]))
          · exact nm_r (nI_1 g) (k _ (by rw [sq_li_less hno hl q]; rfl)))
theorem sq_opneg {e : Option Nat} (he : ∀ m, e = some m → m < 2 ^ 31) : sq_op e < 0 ↔ e = none := by
  cases e with
  | none => exact ⟨fun _ => rfl, fun _ => by decide⟩
  | some m => exact ⟨fun z => absurd z (nI_pos (he m rfl)), fun z => absurd z (by simp)⟩
theorem sq_sw8 {w : Nat → Nat} {n : Nat} (h : sq_s w 8 = n) (hn : n ≤ 200) : ∀ g, g < 8 → w g ≤ 200 := fun g hg => by
  have := sq_s1 (f := w) (a := g) 8 hg
  omega
theorem sq_ybitsL {post : Int32 → SY → Prop} {n : Nat} {li so : Nat → Int32} {cnt : Nat → Nat} (hn : n ≤ 200) (hs : sq_s cnt 8 = n) (h0 : ∀ g, g < 8 → so g = nI (cnt g)) (h : ∀ so', post (nI (sq_hf 7 cnt)) (nI n, li, so')) : ∃ n', wY_bits_53 post (nI n) n' 0 (sq_op (sq_fi cnt)) (sq_op (sq_se cnt)) li so := by
  have fin8 : ∀ (w : Nat → Nat) m, sq_fi w = some m → m < 8 := fun w m hm => sq_li8 (w := w) (e := none) (i := 8) hm
  have sen8 : ∀ (w : Nat → Nat) m, sq_se w = some m → m < 8 := fun w m hm => sq_li8 (w := w) (e := sq_fi w) (i := 8) hm
  have ex : ∀ (n' : Nat) (w : Nat → Nat) (sum j : Nat) (so' : Nat → Int32), sum + sq_hf (7 - j) w = sq_hf 7 cnt → sq_se w = none → wY_bits_53 post (nI n) (n' + 1) (nI sum) (sq_op (sq_fi w)) (sq_op (sq_se w)) li so' := by
    intro n' w sum j so' e1 e2
    rw [sq_hf_none e2, Nat.add_zero] at e1
    exact br_t ((sq_opneg (fun m hm => by have := sen8 w m hm; omega)).mpr e2) (by rw [e1]; exact h so')
  exact loop_0 (σ := Int32 × Int32 × Int32 × (Nat → Int32)) (fun n' j x => wY_bits_53 post (nI n) n' x.1 x.2.1 x.2.2.1 li x.2.2.2)
    (fun j x => ∃ (w : Nat → Nat) (sum : Nat), (∀ g, g < 8 → x.2.2.2 g = nI (w g)) ∧ sq_s w 8 = n ∧ x.1 = nI sum ∧ x.2.1 = sq_op (sq_fi w) ∧ x.2.2.1 = sq_op (sq_se w) ∧ sum + sq_hf (7 - j) w = sq_hf 7 cnt ∧ sq_lv w + j ≤ 8) 7 (0, sq_op (sq_fi cnt), sq_op (sq_se cnt), so)
    ⟨cnt, 0, h0, hs, rfl, rfl, rfl, Nat.zero_add _, sq_cle _ 8⟩
    (fun n' x e => by
      obtain ⟨x1, x2, x3, s'⟩ := x
      obtain ⟨w, sum, e1, e2, e3, e4, e5, e6, e7⟩ := e
      have e3' : x1 = nI sum := e3
      have e4' : x2 = sq_op (sq_fi w) := e4
      have e5' : x3 = sq_op (sq_se w) := e5
      subst e3' e4' e5'
      have sn : sq_se w = none := by
        cases hse : sq_se w with
        | none => rfl
        | some s =>
          obtain ⟨f, _, f8, s8, ne, lf, ls, _, _⟩ := sq_se_some hse
          have := sq_lv2 f8 s8 ne lf ls
          omega
      exact ex n' w sum 7 s' e6 sn)
    (fun n' j x hj e k => by
      obtain ⟨x1, x2, x3, s'⟩ := x
      obtain ⟨w, sum, e1, e2, e3, e4, e5, e6, e7⟩ := e
      have e1' : ∀ g, g < 8 → s' g = nI (w g) := e1
      have e3' : x1 = nI sum := e3
      have e4' : x2 = sq_op (sq_fi w) := e4
      have e5' : x3 = sq_op (sq_se w) := e5
      subst e3' e4' e5'
      cases hse : sq_se w with
      | none =>
        have := ex n' w sum j s' e6 hse
        rw [hse] at this
        exact this
      | some s =>
        obtain ⟨f, hfi, f8, s8, ne, lf, ls, _, _⟩ := sq_se_some hse
        rw [hfi]
        have i1 : vp_in (nI f) 8 := vp_in_nI f8 (by decide)
        have i2 : vp_in (nI s) 8 := vp_in_nI s8 (by decide)
        have cf : (nI f).toNatClampNeg = f := nI_clamp (by omega)
        have cs : (nI s).toNatClampNeg = s := nI_clamp (by omega)
        have jw8 : ∀ g, g < 8 → upd (upd s' f (nI (w f + w s))) s (nI 0) g = nI (sq_jw w f s g) := by
          intro g hg
          unfold sq_jw
          by_cases z : g = s
          · rw [z, pk_us, if_pos rfl]
          · rw [pk_un z, if_neg z]
            by_cases y : g = f
            · rw [y, pk_us, if_pos rfl]
            · rw [pk_un y, if_neg y, e1' g hg]
        have js := sq_jws (w := w) f8 s8 ne
        have jl := sq_jlv f8 s8 ne lf ls
        have jb := sq_sw8 (js.trans e2) hn
        have jf : sq_jw w f s f = w f + w s := (if_neg ne).trans (if_pos rfl)
        rw [show 7 - j = (7 - (j + 1)) + 1 by omega, sq_hf_some hfi hse] at e6
        refine br_f (nI_pos (by omega)) ⟨i1, i2, i1, nm_r (e' := upd s' f (nI (w f + w s))) (by show upd s' (nI f).toNatClampNeg (s' (nI f).toNatClampNeg + s' (nI s).toNatClampNeg) = _; rw [cf, cs, e1' f f8, e1' s s8, nI_add]) ⟨i2, nm_r (e' := upd (upd s' f (nI (w f + w s))) s (nI 0)) (by show upd _ (nI s).toNatClampNeg 0 = _; rw [cs]; rfl) ⟨i1, nm_r (e' := nI (sum + (w f + w s))) (by show nI sum + upd (upd s' f (nI (w f + w s))) s (nI 0) (nI f).toNatClampNeg = _; rw [cf, jw8 f f8, jf, nI_add]) ?_⟩⟩⟩
        refine sq_yrarest (e := none) (w := sq_jw w f s) (fun g hg => ⟨jw8 g hg, jb g hg⟩) (fun m hm => absurd hm (by simp)) (sq_yrarest (e := sq_fi (sq_jw w f s)) (w := sq_jw w f s) (fun g hg => ⟨jw8 g hg, jb g hg⟩) (fun m hm => fin8 _ m hm) ?_)
        exact k (nI (sum + (w f + w s)), sq_op (sq_fi (sq_jw w f s)), sq_op (sq_se (sq_jw w f s)), upd (upd s' f (nI (w f + w s))) s (nI 0)) ⟨sq_jw w f s, sum + (w f + w s), jw8, js.trans e2, rfl, rfl, rfl, by omega, by omega⟩)
theorem sq_ybits {post : Int32 → SY → Prop} {L : Nat → Nat} {n : Nat} {so : Nat → Int32} (hL : ∀ j, L j < 8) (hn : n ≤ 200) (h : ∀ so', post (nI (sq_bits (fun l => sq_rk L l n) n)) (nI n, sq_l L, so')) : wpY_bits post (nI n, sq_l L, so) :=
  loop_0 (σ := Nat → Int32) (fun n' l s => wY_bits_2 post (nI n) n' (nI l) (sq_l L) s) (fun l s => ∀ g, g < l → s g = nI (sq_rk L g n)) 8 so (fun g hg => absurd hg (Nat.not_lt_zero g))
    (fun n' s e => by
      have hw : ∀ g, g < 8 → s g = nI (sq_rk L g n) ∧ sq_rk L g n ≤ 200 := fun g hg => ⟨e g hg, by have := sq_rkle L g n; omega⟩
      refine br_t (nI_le (Nat.le_refl 8) (by decide)) (sq_yrarest (e := none) (w := fun l => sq_rk L l n) hw (fun m hm => absurd hm (by simp)) (sq_yrarest (e := sq_fi (fun l => sq_rk L l n)) (w := fun l => sq_rk L l n) hw (fun m hm => sq_li8 (e := none) (i := 8) hm) ?_))
      have on := sq_opneg (e := sq_se (fun l => sq_rk L l n)) (fun m hm => by have := sq_li8 (w := fun l => sq_rk L l n) (e := sq_fi (fun l => sq_rk L l n)) (i := 8) hm; omega)
      unfold sq_bits at h
      by_cases z : sq_se (fun l => sq_rk L l n) = none
      · rw [if_pos z] at h
        exact br_f (fun y => Int32.lt_irrefl (Int32.lt_of_lt_of_le (on.mpr z) y)) (h s)
      · rw [if_neg z] at h
        exact br_t (Int32.not_lt.mp (fun y => z (on.mp y))) (sq_ybitsL hn (sq_cnts L hL n) e h))
    (fun n' l s hl e k => br_f (nI_ge (b := 8) hl (by decide)) (sq_yoften (i := 0) hL (by omega) (Nat.zero_le n) hn ⟨vp_in_nI hl (by decide), nm_r (e' := upd s l (nI (sq_rk L l n))) (by rw [nI_clamp (by omega)]; rfl) (nm_r (nI_1 l) (k _ (fun g hg => by
      by_cases z : g = l
      · rw [z, pk_us]
      · rw [pk_un z]; exact e g (by omega))))⟩))
section
variable {f_length f_runCount f_streamLength : Int32} {a_letters : Nat → Int32} {a_plainWords a_treeBits a_matrixBits : Nat → Int64} {a_matrixZeros : Nat → Int32} {a_letterRows a_runWords : Nat → Int64} {a_letterCounts a_groupWeights a_groupOf a_codeLengths a_codes a_codesOfLength a_lettersByCode : Nat → Int32} {a_stream : Nat → Int64} {a_sampleStarts a_sampleRanks : Nat → Int32} {a_sparseHigh a_sparseLow : Nat → Int64}
theorem sq_xdiffL {post : Int32 → Prop} {L : Nat → Nat} {n i j : Nat} (hL : ∀ j, L j < 8) (hn : n ≤ 200) (hij : i ≤ j) (hj : j ≤ n) (h : post (nI (sq_c (fun l => decide (sq_rk L l i < sq_rk L l j)) 8))) : ∃ n', wX_different_16 post (nI j) (nI n) f_runCount f_streamLength (sq_l L) a_plainWords a_treeBits a_matrixBits a_matrixZeros a_letterRows a_runWords a_letterCounts a_groupWeights a_groupOf a_codeLengths a_codes a_codesOfLength a_lettersByCode a_stream a_sampleStarts a_sampleRanks a_sparseHigh a_sparseLow n' 0 (nI i) :=
  pk_loop (σ := Int32) (fun n' p x3 => wX_different_16 post (nI j) (nI n) f_runCount f_streamLength (sq_l L) a_plainWords a_treeBits a_matrixBits a_matrixZeros a_letterRows a_runWords a_letterCounts a_groupWeights a_groupOf a_codeLengths a_codes a_codesOfLength a_lettersByCode a_stream a_sampleStarts a_sampleRanks a_sparseHigh a_sparseLow n' x3 (nI p)) (fun p x3 => i ≤ p ∧ ∃ s, x3 = nI s ∧ s < 256 ∧ ∀ l, l < 8 → s.testBit l = decide (sq_rk L l i < sq_rk L l p)) j i 0 hij
    ⟨Nat.le_refl i, 0, rfl, by decide, fun l _ => by rw [Nat.zero_testBit, decide_eq_false (by omega)]⟩
    (fun n' x3 e => by
      obtain ⟨_, s, rfl, s2, s3⟩ := e
      refine br_t (nI_le (Nat.le_refl j) (by omega)) ?_
      rw [nI_l (by omega)]
      refine sq_xones ?_
      rw [sq_pc8 s2, sq_ccg 8 s3]
      exact h)
    (fun n' p x3 hp e k => by
      obtain ⟨e0, s, rfl, s2, s3⟩ := e
      have l8 := hL p
      refine br_f (nI_ge hp (by omega)) ⟨vp_in_nI (by omega) (by decide), nm_r (e' := nI (s ||| 2 ^ L p)) (by rw [sq_lc L (by omega), sq_sh1 _ l8, sq_nor]) (nm_r (nI_1 p) (k _ ⟨by omega, s ||| 2 ^ L p, rfl, ?_, fun l hl => ?_⟩))⟩
      · exact Nat.or_lt_two_pow (n := 8) s2 (Nat.pow_lt_pow_right (by decide) l8)
      · rw [Nat.testBit_or, s3 l hl, Nat.testBit_two_pow]
        have mo := sq_rkmono L l e0
        by_cases z : L p = l
        · rw [sq_rkt z, decide_eq_true z, Bool.or_true, decide_eq_true (by omega)]
        · rw [sq_rkf z, decide_eq_false z, Bool.or_false])
theorem sq_xnextF {post : Int32 → Prop} {L : Nat → Nat} {n l b p : Nat} (hL : ∀ j, L j < 8) (hn : n ≤ 200) (hl : l < 8) (h1 : b ≤ p) (h2 : p < n) (h3 : L p = l) (h4 : ∀ q, b ≤ q → q < p → L q ≠ l) (h : post (nI p)) : ∃ n', wX_next_19 post (nI l) (nI n) f_runCount f_streamLength (sq_l L) a_plainWords a_treeBits a_matrixBits a_matrixZeros a_letterRows a_runWords a_letterCounts a_groupWeights a_groupOf a_codeLengths a_codes a_codesOfLength a_lettersByCode a_stream a_sampleStarts a_sampleRanks a_sparseHigh a_sparseLow n' (nI b) :=
  pk_loop (σ := Unit) (fun n' i _ => wX_next_19 post (nI l) (nI n) f_runCount f_streamLength (sq_l L) a_plainWords a_treeBits a_matrixBits a_matrixZeros a_letterRows a_runWords a_letterCounts a_groupWeights a_groupOf a_codeLengths a_codes a_codesOfLength a_lettersByCode a_stream a_sampleStarts a_sampleRanks a_sparseHigh a_sparseLow n' (nI i)) (fun i _ => b ≤ i) p b () h1 (Nat.le_refl b)
    (fun n' _ _ => br_f (nI_ge h2 (by omega)) ⟨vp_in_nI (by omega) (by decide), br_t (by rw [sq_lc L (by omega), h3]) h⟩)
    (fun n' i _ hi e k => br_f (nI_ge (by omega) (by omega)) ⟨vp_in_nI (by omega) (by decide), br_f (fun w => by
      rw [sq_lc L (by omega)] at w
      have l8 := hL i
      rw [nI_eq (by omega) (by omega)] at w
      exact h4 i e hi w) (nm_r (nI_1 i) (k () (by omega)))⟩)
theorem sq_xnext0 {post : Int32 → Prop} {L : Nat → Nat} {n l b : Nat} (hL : ∀ j, L j < 8) (hn : n ≤ 200) (hl : l < 8) (hb : b < 2 ^ 31) (h4 : ∀ q, b ≤ q → q < n → L q ≠ l) (h : post (-1)) : ∃ n', wX_next_19 post (nI l) (nI n) f_runCount f_streamLength (sq_l L) a_plainWords a_treeBits a_matrixBits a_matrixZeros a_letterRows a_runWords a_letterCounts a_groupWeights a_groupOf a_codeLengths a_codes a_codesOfLength a_lettersByCode a_stream a_sampleStarts a_sampleRanks a_sparseHigh a_sparseLow n' (nI b) := by
  by_cases z : b ≤ n
  · exact pk_loop (σ := Unit) (fun n' i _ => wX_next_19 post (nI l) (nI n) f_runCount f_streamLength (sq_l L) a_plainWords a_treeBits a_matrixBits a_matrixZeros a_letterRows a_runWords a_letterCounts a_groupWeights a_groupOf a_codeLengths a_codes a_codesOfLength a_lettersByCode a_stream a_sampleStarts a_sampleRanks a_sparseHigh a_sparseLow n' (nI i)) (fun i _ => b ≤ i) n b () z (Nat.le_refl b)
      (fun n' _ _ => br_t (nI_le (Nat.le_refl n) (by omega)) h)
      (fun n' i _ hi e k => br_f (nI_ge (by omega) (by omega)) ⟨vp_in_nI (by omega) (by decide), br_f (fun w => by
        rw [sq_lc L (by omega)] at w
        have l8 := hL i
        rw [nI_eq (by omega) (by omega)] at w
        exact h4 i e hi w) (nm_r (nI_1 i) (k () (by omega)))⟩)
  · exact ⟨1, br_t (nI_le (by omega) hb) h⟩
end
theorem i_vc_different {k : Nat} {u : SX} {v : SY} (I : i_Rel k u v) (hk : k + 5 ≤ 2560) (v1 : Int32) (v2 : Int32) : wpX_different (fun r => wpY_different (fun r' => r' = r ∧ i_Rel (k + 5) u v) v v1 v2) u v1 v2 := by
  have J : i_Rel (k + 5) u v := I
  obtain ⟨L, n, rc, sl, pw, tb, mb, mz, lr, rn, lc, gw, go, cl, cs, col, lbc, sm, ss, sr, hi, lo, so, hL, hn, rfl, rfl, H⟩ := I
  unfold wpX_different
  rcases sq_rngc v1 v2 hn with h2 | ⟨i, j, hij, hj, rfl, rfl⟩
  · exact sq_xrng0 h2 (br_t rfl (sq_ydiff0 h2 ⟨rfl, J⟩))
  · exact sq_xrng1 hn hij hj (br_f (by decide) (sq_xdiffL hL hn hij hj (sq_ydiff hL hn hij hj ⟨rfl, J⟩)))
theorem i_vc_next {k : Nat} {u : SX} {v : SY} (I : i_Rel k u v) (hk : k + 5 ≤ 2560) (v1 : Int32) (v2 : Int32) : wpX_next (fun r => wpY_next (fun r' => r' = r ∧ i_Rel (k + 5) u v) v v1 v2) u v1 v2 := by
  have J : i_Rel (k + 5) u v := I
  obtain ⟨L, n, rc, sl, pw, tb, mb, mz, lr, rn, lc, gw, go, cl, cs, col, lbc, sm, ss, sr, hi, lo, so, hL, hn, rfl, rfl, H⟩ := I
  unfold wpX_next
  rcases sq_ix3 v1 (n := 8) (by decide) with h1 | ⟨l, hl, rfl⟩
  · exact sq_xlet0 h1 (br_t rfl (sq_ynextN hL hn h1 ⟨rfl, J⟩))
  · refine sq_xlet1 hl (br_f (by decide) ?_)
    by_cases h2 : v2 < 0
    · have hb : ∀ q, q < 200 → (nI q < v2 ↔ q < 0) := fun q hq => ⟨fun z => absurd (Int32.lt_of_lt_of_le z (Int32.le_of_lt h2)) (nI_pos (by omega)), fun z => absurd z (Nat.not_lt_zero q)⟩
      refine br_f (fun z => Int32.lt_irrefl (Int32.lt_of_lt_of_le h2 z)) ?_
      rcases sq_find L l 0 n with ⟨p, y1, y2, y3, y4⟩ | y
      · exact sq_xnextF hL hn hl y1 y2 y3 y4 (sq_ynextF hL hn hl hb y1 y2 y3 y4 ⟨rfl, J⟩)
      · exact sq_xnext0 hL hn hl (by decide) y (sq_ynext0 hL hn hl hb y ⟨rfl, J⟩)
    · obtain ⟨b, hb0, rfl⟩ := nI_of h2
      have hb : ∀ q, q < 200 → (nI q < nI b ↔ q < b) := fun q hq => nI_ltI (by omega) hb0
      refine br_t (nI_pos' hb0) ?_
      rcases sq_find L l b n with ⟨p, y1, y2, y3, y4⟩ | y
      · exact sq_xnextF hL hn hl y1 y2 y3 y4 (sq_ynextF hL hn hl hb y1 y2 y3 y4 ⟨rfl, J⟩)
      · exact sq_xnext0 hL hn hl hb0 y (sq_ynext0 hL hn hl hb y ⟨rfl, J⟩)
theorem i_vc_runs {k : Nat} {u : SX} {v : SY} (I : i_Rel k u v) (hk : k + 5 ≤ 2560) : wpX_runs (fun r => wpY_runs (fun r' => r' = r ∧ i_Rel (k + 5) u v) v) u := by
  have J : i_Rel (k + 5) u v := I
  obtain ⟨L, n, rc, sl, pw, tb, mb, mz, lr, rn, lc, gw, go, cl, cs, col, lbc, sm, ss, sr, hi, lo, so, hL, hn, rfl, rfl, H⟩ := I
  unfold wpX_runs
  obtain ⟨r, st, e1, e2, _⟩ := H.2.2.2.2.1
  exact sq_yruns hL hn ⟨by rw [e1, e2], J⟩
theorem i_vc_bits {k : Nat} {u : SX} {v : SY} (I : i_Rel k u v) (hk : k + 5 ≤ 2560) : wpX_bits (fun r => wpY_bits (fun r' v' => r' = r ∧ i_Rel (k + 5) u v') v) u := by
  obtain ⟨L, n, rc, sl, pw, tb, mb, mz, lr, rn, lc, gw, go, cl, cs, col, lbc, sm, ss, sr, hi, lo, so, hL, hn, rfl, rfl, H⟩ := I
  obtain ⟨len, C⟩ := H.2.2.2.2.2.1
  exact sq_ybits hL hn (fun so' => ⟨by rw [C.2.2.2.2.2.2.1, C.2.2.2.2.2.2.2], L, n, rc, sl, pw, tb, mb, mz, lr, rn, lc, gw, go, cl, cs, col, lbc, sm, ss, sr, hi, lo, so', hL, hn, rfl, rfl, H⟩)
end
section
-- Part 25: append, again, change, cut (written by wip/whole/gen25.py)
theorem sq_rel {k : Nat} {L : Nat → Nat} {n : Nat} {rc sl : Int32} {pw tb mb : Nat → Int64} {mz : Nat → Int32} {lr rn : Nat → Int64} {lc gw go cl cs col lbc : Nat → Int32} {sm : Nat → Int64} {ss sr : Nat → Int32} {hi lo : Nat → Int64} {so : Nat → Int32} (hL : ∀ j, L j < 8) (hn : n ≤ 200) (H : sq_PK L n pw tb mb mz lr rn rc cl col lbc sm ss sr sl hi lo) : i_Rel k ((nI n), rc, sl, (sq_l L), pw, tb, mb, mz, lr, rn, lc, gw, go, cl, cs, col, lbc, sm, ss, sr, hi, lo) (nI n, sq_l L, so) :=
  ⟨L, n, rc, sl, pw, tb, mb, mz, lr, rn, lc, gw, go, cl, cs, col, lbc, sm, ss, sr, hi, lo, so, hL, hn, rfl, rfl, H⟩
/-- t letters l behind the list -/
def sq_La (L : Nat → Nat) (n l t : Nat) : Nat → Nat := fun j => if n ≤ j ∧ j < n + t then l else L j
theorem sq_La0 (L : Nat → Nat) (n l : Nat) : sq_La L n l 0 = L := by
  funext j
  exact if_neg (by omega)
theorem sq_Las (L : Nat → Nat) (n l t : Nat) : (fun j => if j = n + t then l else sq_La L n l t j) = sq_La L n l (t + 1) := by
  funext j
  unfold sq_La
  by_cases z : j = n + t
  · rw [if_pos z, if_pos (by omega)]
  · rw [if_neg z]
    by_cases y : n ≤ j ∧ j < n + t
    · rw [if_pos y, if_pos (by omega)]
    · rw [if_neg y, if_neg (by omega)]
theorem sq_La8 {L : Nat → Nat} (hL : ∀ j, L j < 8) {n l : Nat} (hl : l < 8) (t : Nat) : ∀ j, sq_La L n l t j < 8 := by
  intro j
  have := hL j
  unfold sq_La
  split <;> omega
/-- t letters more, each as the one b before it -/
def sq_Lg (L : Nat → Nat) (n b : Nat) : Nat → Nat → Nat
  | 0 => L
  | t + 1 => fun j => if j = n + t then sq_Lg L n b t (n + t - b) else sq_Lg L n b t j
theorem sq_Lg8 {L : Nat → Nat} (hL : ∀ j, L j < 8) {n b : Nat} : ∀ t j, sq_Lg L n b t j < 8 := by
  intro t
  induction t with
  | zero => exact hL
  | succ t ih =>
    intro j
    show (if j = n + t then sq_Lg L n b t (n + t - b) else sq_Lg L n b t j) < 8
    split
    · exact ih _
    · exact ih _
theorem sq_ymany0 {post : Int32 → Prop} {s : SY} {x : Int32} (h : x < 1 ∨ nI 201 ≤ x) (p : post 0) : wpY_many post s x := br_c (fun _ => p) (fun hn => br_t (sq_ltle (a := 200) (h.resolve_left hn) (by decide) (by decide)) p)
theorem sq_ymany1 {post : Int32 → Prop} {s : SY} {m : Nat} (h1 : 1 ≤ m) (h2 : m ≤ 200) (p : post 1) : wpY_many post s (nI m) := br_f (nI_nlt (b := 1) h1 (by omega)) (br_f (nI_nlt (a := 200) h2 (by decide)) p)
theorem sq_manyc (x : Int32) : (x < 1 ∨ nI 201 ≤ x) ∨ ∃ m : Nat, 1 ≤ m ∧ m ≤ 200 ∧ x = nI m := by
  by_cases h1 : x < 1
  · exact Or.inl (Or.inl h1)
  · rcases sq_ix3 x (n := 201) (by decide) with (h | h) | ⟨m, hm, rfl⟩
    · exact absurd (Int32.lt_of_lt_of_le h (by decide)) h1
    · exact Or.inl (Or.inr h)
    · right
      refine ⟨m, ?_, by omega, rfl⟩
      by_cases z : m = 0
      · subst z
        exact absurd (by decide) h1
      · omega
theorem sq_yappL {post : Int32 → SY → Prop} {L : Nat → Nat} {n l m : Nat} {so : Nat → Int32} (hnm : n + m ≤ 200) (h : post (nI (n + m)) (nI (n + m), sq_l (sq_La L n l m), so)) : ∃ n', wY_append_35 post (nI l) (nI m) n' 0 (nI n) (sq_l L) so :=
  loop_0 (σ := Int32 × (Nat → Int32)) (fun n' t x => wY_append_35 post (nI l) (nI m) n' (nI t) x.1 x.2 so) (fun t x => x.1 = nI (n + t) ∧ x.2 = sq_l (sq_La L n l t)) m (nI n, sq_l L) ⟨rfl, by rw [sq_La0]⟩
    (fun n' x e => by
      obtain ⟨x1, x2⟩ := x
      obtain ⟨e1, e2⟩ := e
      have e1' : x1 = nI (n + m) := e1
      have e2' : x2 = sq_l (sq_La L n l m) := e2
      subst e1' e2'
      exact br_t (nI_le (Nat.le_refl m) (by omega)) h)
    (fun n' t x ht e k => by
      obtain ⟨x1, x2⟩ := x
      obtain ⟨e1, e2⟩ := e
      have e1' : x1 = nI (n + t) := e1
      have e2' : x2 = sq_l (sq_La L n l t) := e2
      subst e1' e2'
      exact br_f (nI_ge ht (by omega)) ⟨vp_in_nI (by omega) (by decide), nm_r (e' := sq_l (sq_La L n l (t + 1))) (by
        show upd (sq_l (sq_La L n l t)) (nI (n + t)).toNatClampNeg (nI l) = _
        rw [nI_clamp (by omega), sq_lup, sq_Las]) (nm_r (nI_1 _) (nm_r (nI_1 t) (k (nI (n + (t + 1)), sq_l (sq_La L n l (t + 1))) ⟨rfl, rfl⟩)))⟩)
theorem sq_yagL {post : Int32 → SY → Prop} {L : Nat → Nat} {n b m : Nat} {so : Nat → Int32} (hnm : n + m ≤ 200) (h1 : 1 ≤ b) (hb : b ≤ n) (h : post (nI (n + m)) (nI (n + m), sq_l (sq_Lg L n b m), so)) : ∃ n', wY_again_40 post (nI b) (nI m) n' 0 (nI n) (sq_l L) so :=
  loop_0 (σ := Int32 × (Nat → Int32)) (fun n' t x => wY_again_40 post (nI b) (nI m) n' (nI t) x.1 x.2 so) (fun t x => x.1 = nI (n + t) ∧ x.2 = sq_l (sq_Lg L n b t)) m (nI n, sq_l L) ⟨rfl, rfl⟩
    (fun n' x e => by
      obtain ⟨x1, x2⟩ := x
      obtain ⟨e1, e2⟩ := e
      have e1' : x1 = nI (n + m) := e1
      have e2' : x2 = sq_l (sq_Lg L n b m) := e2
      subst e1' e2'
      exact br_t (nI_le (Nat.le_refl m) (by omega)) h)
    (fun n' t x ht e k => by
      obtain ⟨x1, x2⟩ := x
      obtain ⟨e1, e2⟩ := e
      have e1' : x1 = nI (n + t) := e1
      have e2' : x2 = sq_l (sq_Lg L n b t) := e2
      subst e1' e2'
      have sb : nI (n + t) - nI b = nI (n + t - b) := pk_sub (by omega)
      exact br_f (nI_ge ht (by omega)) ⟨by show vp_in (nI (n + t) - nI b) 200; rw [sb]; exact vp_in_nI (by omega) (by decide), vp_in_nI (by omega) (by decide), nm_r (e' := sq_l (sq_Lg L n b (t + 1))) (by
        show upd (sq_l (sq_Lg L n b t)) (nI (n + t)).toNatClampNeg (sq_l (sq_Lg L n b t) (nI (n + t) - nI b).toNatClampNeg) = _
        rw [sb, nI_clamp (by omega), sq_lc _ (by omega), sq_lup]
        rfl) (nm_r (nI_1 _) (nm_r (nI_1 t) (k (nI (n + (t + 1)), sq_l (sq_Lg L n b (t + 1))) ⟨rfl, rfl⟩)))⟩)
section
variable {f_length f_runCount f_streamLength : Int32} {a_letters : Nat → Int32} {a_plainWords a_treeBits a_matrixBits : Nat → Int64} {a_matrixZeros : Nat → Int32} {a_letterRows a_runWords : Nat → Int64} {a_letterCounts a_groupWeights a_groupOf a_codeLengths a_codes a_codesOfLength a_lettersByCode : Nat → Int32} {a_stream : Nat → Int64} {a_sampleStarts a_sampleRanks : Nat → Int32} {a_sparseHigh a_sparseLow : Nat → Int64}
theorem sq_xappL {post : Int32 → SX → Prop} {L : Nat → Nat} {n l m : Nat} (hL : ∀ j, L j < 8) (hnm : n + m ≤ 200) (hl : l < 8) (h : ∀ rc sl pw tb mb mz lr rn lc gw go cl cs col lbc sm ss sr hi lo, sq_PK (sq_La L n l m) (n + m) pw tb mb mz lr rn rc cl col lbc sm ss sr sl hi lo → post (nI (n + m)) ((nI (n + m)), rc, sl, (sq_l (sq_La L n l m)), pw, tb, mb, mz, lr, rn, lc, gw, go, cl, cs, col, lbc, sm, ss, sr, hi, lo)) : ∃ n', wX_append_38 post (nI l) (nI m) (nI n) f_runCount f_streamLength n' 0 (sq_l L) a_plainWords a_treeBits a_matrixBits a_matrixZeros a_letterRows a_runWords a_letterCounts a_groupWeights a_groupOf a_codeLengths a_codes a_codesOfLength a_lettersByCode a_stream a_sampleStarts a_sampleRanks a_sparseHigh a_sparseLow :=
  loop_0 (σ := Nat → Int32) (fun n' t a => wX_append_38 post (nI l) (nI m) (nI n) f_runCount f_streamLength n' (nI t) a a_plainWords a_treeBits a_matrixBits a_matrixZeros a_letterRows a_runWords a_letterCounts a_groupWeights a_groupOf a_codeLengths a_codes a_codesOfLength a_lettersByCode a_stream a_sampleStarts a_sampleRanks a_sparseHigh a_sparseLow) (fun t a => a = sq_l (sq_La L n l t)) m (sq_l L) (by rw [sq_La0])
    (fun n' a e => by
      subst e
      exact br_t (nI_le (Nat.le_refl m) (by omega)) (nm_r (nI_add n m) (sq_xpackAll (sq_La8 hL hl m) hnm (fun rc sl pw tb mb mz lr rn lc gw go cl cs col lbc sm ss sr hi lo H' => h rc sl pw tb mb mz lr rn lc gw go cl cs col lbc sm ss sr hi lo H'))))
    (fun n' t a ht e k => by
      subst e
      have s : nI n + nI t = nI (n + t) := nI_add n t
      exact br_f (nI_ge ht (by omega)) ⟨by rw [s]; exact vp_in_nI (by omega) (by decide), nm_r (e' := sq_l (sq_La L n l (t + 1))) (by rw [s, nI_clamp (by omega), sq_nar2 l hl, sq_lup, sq_Las]) (nm_r (nI_1 t) (k _ rfl))⟩)
theorem sq_xagL {post : Int32 → SX → Prop} {L : Nat → Nat} {n b m : Nat} (hL : ∀ j, L j < 8) (hnm : n + m ≤ 200) (h1 : 1 ≤ b) (hb : b ≤ n) (h : ∀ rc sl pw tb mb mz lr rn lc gw go cl cs col lbc sm ss sr hi lo, sq_PK (sq_Lg L n b m) (n + m) pw tb mb mz lr rn rc cl col lbc sm ss sr sl hi lo → post (nI (n + m)) ((nI (n + m)), rc, sl, (sq_l (sq_Lg L n b m)), pw, tb, mb, mz, lr, rn, lc, gw, go, cl, cs, col, lbc, sm, ss, sr, hi, lo)) : ∃ n', wX_again_44 post (nI b) (nI m) (nI n) f_runCount f_streamLength n' 0 (sq_l L) a_plainWords a_treeBits a_matrixBits a_matrixZeros a_letterRows a_runWords a_letterCounts a_groupWeights a_groupOf a_codeLengths a_codes a_codesOfLength a_lettersByCode a_stream a_sampleStarts a_sampleRanks a_sparseHigh a_sparseLow :=
  loop_0 (σ := Nat → Int32) (fun n' t a => wX_again_44 post (nI b) (nI m) (nI n) f_runCount f_streamLength n' (nI t) a a_plainWords a_treeBits a_matrixBits a_matrixZeros a_letterRows a_runWords a_letterCounts a_groupWeights a_groupOf a_codeLengths a_codes a_codesOfLength a_lettersByCode a_stream a_sampleStarts a_sampleRanks a_sparseHigh a_sparseLow) (fun t a => a = sq_l (sq_Lg L n b t)) m (sq_l L) rfl
    (fun n' a e => by
      subst e
      exact br_t (nI_le (Nat.le_refl m) (by omega)) (nm_r (nI_add n m) (sq_xpackAll (sq_Lg8 hL m) hnm (fun rc sl pw tb mb mz lr rn lc gw go cl cs col lbc sm ss sr hi lo H' => h rc sl pw tb mb mz lr rn lc gw go cl cs col lbc sm ss sr hi lo H'))))
    (fun n' t a ht e k => by
      subst e
      have s : nI n + nI t = nI (n + t) := nI_add n t
      have sb : nI (n + t) - nI b = nI (n + t - b) := pk_sub (by omega)
      exact br_f (nI_ge ht (by omega)) ⟨by rw [s, sb]; exact vp_in_nI (by omega) (by decide), by rw [s]; exact vp_in_nI (by omega) (by decide), nm_r (e' := sq_l (sq_Lg L n b (t + 1))) (by
        rw [s, sb, nI_clamp (by omega), sq_lc _ (by omega), sq_nar _ (sq_Lg8 hL t _), sq_lup]
        rfl) (nm_r (nI_1 t) (k _ rfl))⟩)
end
theorem i_vc_append {k : Nat} {u : SX} {v : SY} (I : i_Rel k u v) (hk : k + 5 ≤ 2560) (v1 : Int32) (v2 : Int32) : wpX_append (fun r u' => wpY_append (fun r' v' => r' = r ∧ i_Rel (k + 5) u' v') v v1 v2) u v1 v2 := by
  have J : i_Rel (k + 5) u v := I
  obtain ⟨L, n, rc, sl, pw, tb, mb, mz, lr, rn, lc, gw, go, cl, cs, col, lbc, sm, ss, sr, hi, lo, so, hL, hn, rfl, rfl, H⟩ := I
  unfold wpX_append
  rcases sq_ix3 v1 (n := 8) (by decide) with h1 | ⟨l, hl, rfl⟩
  · exact sq_xlet0 h1 (br_t rfl (by show wpY_append _ _ _ _; unfold wpY_append; exact sq_ylet0 h1 (br_t rfl ⟨rfl, J⟩)))
  · refine sq_xlet1 hl (br_f (by decide) ?_)
    rcases sq_manyc v2 with h2 | ⟨m, m1, m2, rfl⟩
    · have ny : wpY_append (fun r' v' => r' = -1 ∧ i_Rel (k + 5) ((nI n), rc, sl, (sq_l L), pw, tb, mb, mz, lr, rn, lc, gw, go, cl, cs, col, lbc, sm, ss, sr, hi, lo) v') (nI n, sq_l L, so) (nI l) v2 := (by show wpY_append _ _ _ _; unfold wpY_append; exact sq_ylet1 hl (br_f (by decide) (sq_ymany0 h2 (br_t rfl ⟨rfl, J⟩))))
      exact br_c (fun _ => ny) (fun z => br_f (sq_nlem (m := 200) (h2.resolve_left z) (by decide)) ny)
    · refine br_f (nI_nlt (b := 1) m1 (by omega)) (br_t (nI_le (b := 200) m2 (by decide)) (pk_le m (200 - n) (fun w => ?_) (fun w => ?_) rfl (pk_sub (a := 200) hn)))
      · exact sq_xappL hL (by omega) hl (fun rc' sl' pw' tb' mb' mz' lr' rn' lc' gw' go' cl' cs' col' lbc' sm' ss' sr' hi' lo' H' => (by show wpY_append _ _ _ _; unfold wpY_append; exact sq_ylet1 hl (br_f (by decide) (sq_ymany1 m1 m2 (br_f (by decide) (br_t (by rw [nI_add]; exact nI_le (b := 200) (by omega) (by decide)) (sq_yappL (by omega) ⟨rfl, sq_rel (sq_La8 hL hl m) (by omega) H'⟩)))))))
      · exact (by show wpY_append _ _ _ _; unfold wpY_append; exact sq_ylet1 hl (br_f (by decide) (sq_ymany1 m1 m2 (br_f (by decide) (br_f (by rw [nI_add]; exact nI_ge (b := n + m) (a := 200) (by omega) (by omega)) ⟨rfl, J⟩)))))
theorem i_vc_again {k : Nat} {u : SX} {v : SY} (I : i_Rel k u v) (hk : k + 5 ≤ 2560) (v1 : Int32) (v2 : Int32) : wpX_again (fun r u' => wpY_again (fun r' v' => r' = r ∧ i_Rel (k + 5) u' v') v v1 v2) u v1 v2 := by
  have J : i_Rel (k + 5) u v := I
  obtain ⟨L, n, rc, sl, pw, tb, mb, mz, lr, rn, lc, gw, go, cl, cs, col, lbc, sm, ss, sr, hi, lo, so, hL, hn, rfl, rfl, H⟩ := I
  unfold wpX_again
  by_cases h1 : v1 < 1
  · exact br_t h1 (by show wpY_again _ _ _ _; unfold wpY_again; exact br_t h1 ⟨rfl, J⟩)
  · refine br_f h1 ?_
    by_cases h2 : nI n < v1
    · exact br_t h2 (by show wpY_again _ _ _ _; unfold wpY_again; exact br_f h1 (br_t h2 ⟨rfl, J⟩))
    · refine br_f h2 ?_
      obtain ⟨b, hb, rfl⟩ := nI_of (x := v1) (fun z => h1 (Int32.lt_of_lt_of_le z (by decide)))
      have b1 : 1 ≤ b := by
        by_cases z : b = 0
        · subst z
          exact absurd (by decide) h1
        · omega
      have bn : b ≤ n := by
        rw [nI_ltI (by omega) hb] at h2
        omega
      rcases sq_manyc v2 with h3 | ⟨m, m1, m2, rfl⟩
      · have ny : wpY_again (fun r' v' => r' = -1 ∧ i_Rel (k + 5) ((nI n), rc, sl, (sq_l L), pw, tb, mb, mz, lr, rn, lc, gw, go, cl, cs, col, lbc, sm, ss, sr, hi, lo) v') (nI n, sq_l L, so) (nI b) v2 := (by show wpY_again _ _ _ _; unfold wpY_again; exact br_f h1 (br_f h2 (sq_ymany0 h3 (br_t rfl ⟨rfl, J⟩))))
        exact br_c (fun _ => ny) (fun z => br_f (sq_nlem (m := 200) (h3.resolve_left z) (by decide)) ny)
      · refine br_f (nI_nlt (b := 1) m1 (by omega)) (br_t (nI_le (b := 200) m2 (by decide)) (pk_le m (200 - n) (fun w => ?_) (fun w => ?_) rfl (pk_sub (a := 200) hn)))
        · exact sq_xagL hL (by omega) b1 bn (fun rc' sl' pw' tb' mb' mz' lr' rn' lc' gw' go' cl' cs' col' lbc' sm' ss' sr' hi' lo' H' => (by show wpY_again _ _ _ _; unfold wpY_again; exact br_f h1 (br_f h2 (sq_ymany1 m1 m2 (br_f (by decide) (br_t (by rw [nI_add]; exact nI_le (b := 200) (by omega) (by decide)) (sq_yagL (by omega) b1 bn ⟨rfl, sq_rel (sq_Lg8 hL m) (by omega) H'⟩)))))))
        · exact (by show wpY_again _ _ _ _; unfold wpY_again; exact br_f h1 (br_f h2 (sq_ymany1 m1 m2 (br_f (by decide) (br_f (by rw [nI_add]; exact nI_ge (b := n + m) (a := 200) (by omega) (by omega)) ⟨rfl, J⟩)))))
theorem i_vc_change {k : Nat} {u : SX} {v : SY} (I : i_Rel k u v) (hk : k + 5 ≤ 2560) (v1 : Int32) (v2 : Int32) : wpX_change (fun r u' => wpY_change (fun r' v' => r' = r ∧ i_Rel (k + 5) u' v') v v1 v2) u v1 v2 := by
  have J : i_Rel (k + 5) u v := I
  obtain ⟨L, n, rc, sl, pw, tb, mb, mz, lr, rn, lc, gw, go, cl, cs, col, lbc, sm, ss, sr, hi, lo, so, hL, hn, rfl, rfl, H⟩ := I
  unfold wpX_change
  rcases sq_ix3 v1 (n := n) (by omega) with h1 | ⟨i, hi8, rfl⟩
  · exact sq_xplace0 h1 (br_t rfl (by show wpY_change _ _ _ _; unfold wpY_change; exact sq_yplace0 h1 (br_t rfl ⟨rfl, J⟩)))
  · refine sq_xplace1 hn hi8 (br_f (by decide) ?_)
    rcases sq_ix3 v2 (n := 8) (by decide) with h2 | ⟨l, hl, rfl⟩
    · exact sq_xlet0 h2 (br_t rfl (by show wpY_change _ _ _ _; unfold wpY_change; exact sq_yplace1 hn hi8 (br_f (by decide) (sq_ylet0 h2 (br_t rfl ⟨rfl, J⟩)))))
    · have hL' : ∀ j, (fun j => if j = i then l else L j) j < 8 := by
        intro j
        show (if j = i then l else L j) < 8
        have := hL j
        split <;> omega
      have hin : vp_in (nI i) 200 := vp_in_nI (by omega) (by decide)
      exact sq_xlet1 hl (br_f (by decide) ⟨hin, nm_r (sq_lc L (by omega)) ⟨hin, nm_r (e' := sq_l (fun j => if j = i then l else L j)) (by rw [nI_clamp (by omega), sq_nar2 l hl, sq_lup]) (sq_xpackAll hL' hn (fun rc' sl' pw' tb' mb' mz' lr' rn' lc' gw' go' cl' cs' col' lbc' sm' ss' sr' hi' lo' H' => (by show wpY_change _ _ _ _; unfold wpY_change; exact sq_yplace1 hn hi8 (br_f (by decide) (sq_ylet1 hl (br_f (by decide) ⟨hin, nm_r (sq_lc L (by omega)) ⟨hin, nm_r (e' := sq_l (fun j => if j = i then l else L j)) (by rw [nI_clamp (by omega), sq_lup]) ⟨rfl, sq_rel hL' hn H'⟩⟩⟩))))))⟩⟩)
theorem i_vc_cut {k : Nat} {u : SX} {v : SY} (I : i_Rel k u v) (hk : k + 5 ≤ 2560) (v1 : Int32) : wpX_cut (fun r u' => wpY_cut (fun r' v' => r' = r ∧ i_Rel (k + 5) u' v') v v1) u v1 := by
  have J : i_Rel (k + 5) u v := I
  obtain ⟨L, n, rc, sl, pw, tb, mb, mz, lr, rn, lc, gw, go, cl, cs, col, lbc, sm, ss, sr, hi, lo, so, hL, hn, rfl, rfl, H⟩ := I
  unfold wpX_cut
  by_cases h1 : v1 < 0
  · exact br_t h1 (by show wpY_cut _ _ _; unfold wpY_cut; exact br_t h1 ⟨rfl, J⟩)
  · refine br_f h1 ?_
    obtain ⟨c, hc, rfl⟩ := nI_of h1
    refine pk_le c 200 (fun w => ?_) (fun w => ?_)
    · refine pk_le n c (fun y => ?_) (fun y => ?_)
      · exact sq_xpackAll (n := 0) hL (by omega) (fun rc' sl' pw' tb' mb' mz' lr' rn' lc' gw' go' cl' cs' col' lbc' sm' ss' sr' hi' lo' H' => (by show wpY_cut _ _ _; unfold wpY_cut; exact br_f h1 (br_t (nI_le (b := 200) w (by decide)) (br_t (nI_le y (by omega)) ⟨rfl, sq_rel (n := 0) hL (by omega) H'⟩))))
      · rw [pk_sub (by omega)]
        exact sq_xpackAll (n := n - c) hL (by omega) (fun rc' sl' pw' tb' mb' mz' lr' rn' lc' gw' go' cl' cs' col' lbc' sm' ss' sr' hi' lo' H' => (by show wpY_cut _ _ _; unfold wpY_cut; exact br_f h1 (br_t (nI_le (b := 200) w (by decide)) (br_f (nI_ge y (by omega)) (nm_r (pk_sub (by omega)) ⟨rfl, sq_rel (n := n - c) hL (by omega) H'⟩)))))
    · exact (by show wpY_cut _ _ _; unfold wpY_cut; exact br_f h1 (br_f (nI_ge (b := c) (a := 200) w (by omega)) ⟨rfl, J⟩))
end
