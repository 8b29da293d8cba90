-- Part 10: the stream of words: where each begins, writing, reading.
/-- where the word of place q begins -/
def sq_T (L len : Nat → Nat) (q : Nat) : Nat := sq_s (fun j => len (L j)) q
theorem sq_Ts (L len : Nat → Nat) (q : Nat) : sq_T L len (q + 1) = sq_T L len q + len (L q) := rfl
theorem sq_Tmono (L len : Nat → Nat) {a : Nat} : ∀ b, a ≤ b → sq_T L len a ≤ sq_T L len b := by
  intro b
  induction b with
  | zero => intro h; rw [show a = 0 by omega]; exact Nat.le_refl _
  | succ b ih =>
    intro h
    by_cases e : a = b + 1
    · rw [e]; exact Nat.le_refl _
    · have := ih (by omega)
      rw [sq_Ts]
      omega
/-- a word being written at t, c bits so far -/
def sq_WS (R0 R : Nat → Bool) (t w len c : Nat) : Prop :=
  (∀ P, P < t → R P = R0 P) ∧ (∀ d, d < c → R (t + d) = w.testBit (len - 1 - d)) ∧ ∀ P, t + c ≤ P → P < 640 → R P = false
theorem sq_WS0 {R0 : Nat → Bool} {t w len : Nat} (h : ∀ P, t ≤ P → P < 640 → R0 P = false) : sq_WS R0 R0 t w len 0 :=
  ⟨fun _ _ => rfl, fun d hd => by omega, fun P hP hM => h P (by omega) hM⟩
theorem sq_WS1 {R0 R R' : Nat → Bool} {t w len c : Nat} (H : sq_WS R0 R t w len c) (hb : w.testBit (len - 1 - c) = true) (hR : ∀ P, R' P = (R P || decide (P = t + c))) : sq_WS R0 R' t w len (c + 1) := by
  obtain ⟨h1, h2, h3⟩ := H
  refine ⟨fun P hP => ?_, fun d hd => ?_, fun P hP hM => ?_⟩
  · rw [hR, decide_eq_false (by omega), Bool.or_false]; exact h1 P hP
  · rw [hR]
    by_cases e : d = c
    · subst e; rw [decide_eq_true rfl, Bool.or_true, hb]
    · rw [decide_eq_false (by omega), Bool.or_false]; exact h2 d (by omega)
  · rw [hR, decide_eq_false (by omega), Bool.or_false]; exact h3 P (by omega) hM
theorem sq_WS2 {R0 R : Nat → Bool} {t w len c : Nat} (H : sq_WS R0 R t w len c) (hb : w.testBit (len - 1 - c) = false) (hc : t + c < 640) : sq_WS R0 R t w len (c + 1) := by
  obtain ⟨h1, h2, h3⟩ := H
  refine ⟨h1, fun d hd => ?_, fun P hP hM => h3 P (by omega) hM⟩
  by_cases e : d = c
  · subst e; rw [h3 _ (Nat.le_refl _) hc, hb]
  · exact h2 d (by omega)
/-- the stream up to place q -/
def sq_SW (L len : Nat → Nat) (q : Nat) (R : Nat → Bool) : Prop :=
  (∀ j, j < q → ∀ d, d < len (L j) → R (sq_T L len j + d) = (sq_w len (L j)).testBit (len (L j) - 1 - d)) ∧ ∀ P, sq_T L len q ≤ P → P < 640 → R P = false
theorem sq_SWs {L len : Nat → Nat} {q : Nat} {R R' : Nat → Bool} (H : sq_SW L len q R) (W : sq_WS R R' (sq_T L len q) (sq_w len (L q)) (len (L q)) (len (L q))) : sq_SW L len (q + 1) R' := by
  refine ⟨fun j hj d hd => ?_, fun P hP hM => W.2.2 P hP hM⟩
  by_cases e : j = q
  · subst e; exact W.2.1 d hd
  · have a := sq_Tmono L len (a := j + 1) q (by omega)
    rw [sq_Ts] at a
    rw [W.1 _ (by omega)]
    exact H.1 j (by omega) d hd
/-- the code's part of the packed state -/
def sq_CP (L : Nat → Nat) (n : Nat) (len : Nat → Nat) (cl col lbc : Nat → Int32) (R : Nat → Bool) (ss sr : Nat → Int32) (sl : Int32) : Prop :=
  sq_OK (fun l => sq_rk L l n) len ∧ (∀ l, l < 8 → cl l = nI (len l)) ∧ (∀ s, 1 ≤ s → s < 8 → col s = nI (sq_n len s)) ∧
  (∀ l, l < 8 → 1 ≤ len l → lbc (sq_ix len l) = nI l) ∧ sq_SW L len n R ∧
  (∀ s, 16 * s ≤ n → ss s = nI (sq_T L len (16 * s)) ∧ ∀ l, l < 8 → sr (8 * s + l) = nI (sq_rk L l (16 * s))) ∧
  sl = nI (sq_T L len n) ∧ sq_T L len n = sq_bits (fun l => sq_rk L l n) n
/-- a place's letter has a word -/
theorem sq_CPl {L : Nat → Nat} {n : Nat} {len : Nat → Nat} (hL : ∀ j, L j < 8) (H : sq_OK (fun l => sq_rk L l n) len) {q : Nat} (hq : q < n) : 1 ≤ len (L q) ∧ len (L q) ≤ 7 := by
  refine H.1 (L q) (hL q) ?_
  show 0 < sq_rk L (L q) n
  have a := sq_rkmono L (L q) (show q + 1 ≤ n by omega)
  rw [sq_rkt rfl] at a
  omega
