-- Part 11: what the packed arrays hold; numbers.
def sq_P0 (L : Nat → Nat) (n : Nat) (pw : Nat → Int64) : Prop := ∀ p, p < n → sq_F 3 21 pw p = L p
def sq_P1 (L : Nat → Nat) (n : Nat) (tb : Nat → Int64) : Prop := ∀ l, l < 3 → sq_Row L n l (sq_st L n l) (sq_B tb)
def sq_P2 (L : Nat → Nat) (n : Nat) (mb : Nat → Int64) (mz : Nat → Int32) : Prop := ∀ l, l < 3 → sq_Row L n l (sq_mst L n l) (sq_B mb) ∧ mz l = nI (n - sq_o (sq_B mb) l n)
def sq_P3 (L : Nat → Nat) (n : Nat) (lr : Nat → Int64) : Prop := ∀ l, l < 8 → ∀ p, p < n → sq_B lr (256 * l + p) = decide (L p = l)
def sq_P4 (L : Nat → Nat) (n : Nat) (rw : Nat → Int64) (rc : Int32) : Prop := ∃ (r : Nat) (st : Nat → Nat), rc = nI r ∧ r = sq_c (sq_ch L) n ∧ sq_RI L rw r n st
def sq_P6 (L : Nat → Nat) (n : Nat) (hi lo : Nat → Int64) : Prop := sq_Hi L n (sq_B hi) ∧ ∀ q, q < n → sq_F 3 21 lo (sq_k L n (256 * L q + q)) = q % 8
/-- the letters as the arrays hold them -/
def sq_l (L : Nat → Nat) : Nat → Int32 := fun j => nI (L j)
theorem sq_lup (L : Nat → Nat) (k v : Nat) : upd (sq_l L) k (nI v) = sq_l (fun j => if j = k then v else L j) := by
  funext j
  show (if j = k then nI v else nI (L j)) = nI (if j = k then v else L j)
  split <;> rfl
theorem sq_nar : ∀ l, l < 8 → vp_nar .byte (nI l) = nI l := by
  intro l hl
  rw [vp_nar_byte]
  have : ∀ l, l < 8 → (nI l).toInt8.toInt32 = nI l := by decide +kernel
  exact this l hl
theorem sq_i8b : ∀ l, l < 8 → (nI l).toInt8.toInt32 = nI l := by decide +kernel
theorem sq_fb : ∀ l, l < 8 → fits .byte (.int (nI l)) = true := by
  intro l hl
  rw [← sq_i8b l hl]
  exact pk_fb _
theorem sq_nar2 (l : Nat) (hl : l < 8) : vp_nar .byte (nI l).toInt8.toInt32 = nI l := by rw [sq_i8b l hl, sq_nar l hl]
theorem sq_nor {a b : Nat} : nI a ||| nI b = nI (a ||| b) := by
  apply Int32.toBitVec_inj.1
  show BitVec.ofNat 32 a ||| BitVec.ofNat 32 b = BitVec.ofNat 32 (a ||| b)
  apply BitVec.eq_of_getLsbD_eq
  intro i hi
  simp [hi]
theorem sq_sh1 : ∀ l, l < 8 → (1 : Int32) <<< (nI l &&& 31) = nI (2 ^ l) := by decide +kernel
/-- the top bits, and one bit, of a letter -/
theorem sq_top : ∀ v, v < 8 → ∀ l, l < 3 → nI v >>> ((3 - nI l) &&& 31) = nI (v / 2 ^ (3 - l)) := by decide +kernel
theorem sq_lbit : ∀ v, v < 8 → ∀ l, l < 3 → (nI v >>> ((2 - nI l) &&& 31)) &&& 1 = nI (v / 2 ^ (2 - l) % 2) := by decide +kernel
theorem sq_m1ne {a : Nat} (h : a < 2 ^ 31) : ¬ nI a = -1 := by
  intro e
  have := congrArg Int32.toInt e
  rw [nI_toInt h, show (-1 : Int32).toInt = -1 from by decide] at this
  omega
theorem sq_m1ne' {a : Nat} (h : a < 2 ^ 31) : ¬ (-1 : Int32) = nI a := fun e => sq_m1ne h e.symm
