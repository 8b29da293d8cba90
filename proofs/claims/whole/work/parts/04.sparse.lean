-- Part 04: The sparse engine (Elias and Fano): kept numbers m = 256 * L q + q, q < n.
def sq_k (L : Nat → Nat) (n m : Nat) : Nat := sq_c (fun q => decide (256 * L q + q < m)) n
theorem sq_kmono (L : Nat → Nat) (n : Nat) {a b : Nat} (h : a ≤ b) : sq_k L n a ≤ sq_k L n b :=
  sq_csub (fun j hj => by simp at hj ⊢; omega) n
/-- a kept number counts, and no two places keep the same one -/
theorem sq_kt {L : Nat → Nat} {q : Nat} : ∀ n, n ≤ 256 → q < n → sq_k L n (256 * L q + q + 1) = sq_k L n (256 * L q + q) + 1 := by
  intro n
  induction n with
  | zero => intro _ h; omega
  | succ n ih =>
    intro hn hq
    unfold sq_k
    rw [sq_cs, sq_cs]
    by_cases h : q = n
    · subst h
      have e : sq_c (fun j => decide (256 * L j + j < 256 * L q + q + 1)) q = sq_c (fun j => decide (256 * L j + j < 256 * L q + q)) q :=
        sq_ccg q (fun j hj => by
          by_cases h2 : 256 * L j + j < 256 * L q + q
          · simp [h2]; omega
          · have : ¬ 256 * L j + j = 256 * L q + q := by omega
            simp [h2]; omega)
      rw [e]; simp
    · have := ih (by omega) (by omega)
      unfold sq_k at this
      rw [this]
      have : 256 * L n + n ≠ 256 * L q + q := by omega
      by_cases h2 : 256 * L n + n < 256 * L q + q
      · rw [if_pos (by simp; omega), if_pos (by simp; omega)]
      · rw [if_neg (by simp; omega), if_neg (by simp; omega)]
theorem sq_kf {L : Nat → Nat} {m : Nat} : ∀ n, (∀ q, q < n → 256 * L q + q ≠ m) → sq_k L n (m + 1) = sq_k L n m := by
  intro n h
  exact sq_ccg n (fun j hj => by
    have := h j hj
    by_cases h2 : 256 * L j + j < m
    · simp [h2]; omega
    · simp [h2]; omega)
/-- the row of the high parts -/
def sq_Hi (L : Nat → Nat) (n : Nat) (R : Nat → Bool) : Prop :=
  ∀ P, P < 512 → (R P = true ↔ ∃ q, q < n ∧ P = (256 * L q + q) / 8 + sq_k L n (256 * L q + q))
theorem sq_kep {L : Nat → Nat} {n q m : Nat} (hn : n ≤ 256) (hq : q < n) (h : 256 * L q + q < m) : sq_k L n (256 * L q + q) < sq_k L n m := by
  have a := sq_kt (L := L) n hn hq
  have b := sq_kmono L n (show 256 * L q + q + 1 ≤ m by omega)
  omega
theorem sq_kle (L : Nat → Nat) (n m : Nat) : sq_k L n m ≤ n := sq_cle _ n
/-- zero number k of the row -/
theorem sq_zero {L : Nat → Nat} {n : Nat} {R : Nat → Bool} (hn : n ≤ 200) (H : sq_Hi L n R) {k : Nat} (hk : k < 256) : R (k + sq_k L n (8 * k + 8)) = false := by
  have hb := sq_kle L n (8 * k + 8)
  cases e : R (k + sq_k L n (8 * k + 8)) with
  | false => rfl
  | true =>
    obtain ⟨q, hq, hp⟩ := (H _ (by omega)).mp e
    by_cases h : 256 * L q + q < 8 * k + 8
    · have := sq_kep (by omega) hq h
      omega
    · have := sq_kmono L n (show 8 * k + 8 ≤ 256 * L q + q by omega)
      omega
theorem sq_ones {L : Nat → Nat} {n : Nat} {R : Nat → Bool} (hn : n ≤ 200) (H : sq_Hi L n R) : ∀ m, m ≤ 2048 → sq_c R (m / 8 + sq_k L n m) = sq_k L n m := by
  intro m
  induction m with
  | zero =>
    intro _
    have : sq_k L n 0 = 0 := sq_cnone n (fun j _ => by simp)
    rw [this]; rfl
  | succ m ih =>
    intro hm
    have ih' := ih (by omega)
    have hb := sq_kle L n m
    -- first the number itself
    have A : sq_c R (m / 8 + sq_k L n (m + 1)) = sq_k L n (m + 1) := by
      by_cases h : ∃ q, q < n ∧ 256 * L q + q = m
      · obtain ⟨q, hq, rfl⟩ := h
        rw [sq_kt n (by omega) hq, ← Nat.add_assoc, sq_ct ((H _ (by omega)).mpr ⟨q, hq, rfl⟩), ih']
      · rw [sq_kf n (fun q hq e => h ⟨q, hq, e⟩)]; exact ih'
    -- then the zero behind the bucket
    by_cases h8 : (m + 1) / 8 = m / 8
    · rw [h8]; exact A
    · have e8 : (m + 1) / 8 = m / 8 + 1 := by omega
      have em : m + 1 = 8 * (m / 8) + 8 := by omega
      have z := sq_zero hn H (k := m / 8) (by omega)
      rw [← em] at z
      rw [e8, show m / 8 + 1 + sq_k L n (m + 1) = m / 8 + sq_k L n (m + 1) + 1 by omega, sq_cf z, A]
/-- before zero number k there are as many ones as numbers in the buckets up to k -/
theorem sq_zones {L : Nat → Nat} {n : Nat} {R : Nat → Bool} (hn : n ≤ 200) (H : sq_Hi L n R) {k : Nat} (hk : k < 256) : sq_c R (k + sq_k L n (8 * k + 8)) = sq_k L n (8 * k + 8) := by
  have a := sq_ones hn H (8 * k + 8) (by omega)
  have z := sq_zero hn H hk
  rw [show (8 * k + 8) / 8 + sq_k L n (8 * k + 8) = k + sq_k L n (8 * k + 8) + 1 by omega, sq_cf z] at a
  exact a
/-- if index lies between, a kept number has it -/
theorem sq_kiv {L : Nat → Nat} {n x : Nat} (hn : n ≤ 256) {a : Nat} : ∀ b, sq_k L n a ≤ x → x < sq_k L n b → ∃ q, q < n ∧ a ≤ 256 * L q + q ∧ 256 * L q + q < b ∧ sq_k L n (256 * L q + q) = x := by
  intro b
  induction b with
  | zero => intro _ h2; have := sq_kmono L n (Nat.zero_le a); omega
  | succ b ih =>
    intro h1 h2
    by_cases h : ∃ q, q < n ∧ 256 * L q + q = b
    · obtain ⟨q, hq, rfl⟩ := h
      have t := sq_kt (L := L) n hn hq
      by_cases h3 : x < sq_k L n (256 * L q + q)
      · obtain ⟨q', a1, a2, a3, a4⟩ := ih h1 h3
        exact ⟨q', a1, a2, by omega, a4⟩
      · refine ⟨q, hq, ?_, by omega, by omega⟩
        by_cases h4 : a ≤ 256 * L q + q
        · exact h4
        · have := sq_kmono L n (show 256 * L q + q + 1 ≤ a by omega)
          omega
    · rw [sq_kf n (fun q hq e => h ⟨q, hq, e⟩)] at h2
      obtain ⟨q', a1, a2, a3, a4⟩ := ih h1 h2
      exact ⟨q', a1, a2, by omega, a4⟩
/-- a step of the scan within bucket b = m / 8: index x so far -/
theorem sq_scan1 {L : Nat → Nat} {n : Nat} {R : Nat → Bool} (hn : n ≤ 200) (H : sq_Hi L n R) {m x : Nat} (hm : m < 2048) (h1 : sq_k L n (8 * (m / 8)) ≤ x) (h2 : x ≤ sq_k L n m)
    (hR : R (m / 8 + x) = true) : ∃ q, q < n ∧ (256 * L q + q) / 8 = m / 8 ∧ sq_k L n (256 * L q + q) = x := by
  have hb := sq_kle L n m
  obtain ⟨q, hq, hp⟩ := (H _ (by omega)).mp hR
  have A : ¬ 256 * L q + q < 8 * (m / 8) := fun h => by
    have := sq_kep (show n ≤ 256 by omega) hq h
    omega
  have B : ¬ 8 * (m / 8) + 8 ≤ 256 * L q + q := fun h => by
    have c1 := sq_kmono L n h
    have c2 := sq_kmono L n (show m ≤ 8 * (m / 8) + 8 by omega)
    omega
  exact ⟨q, hq, by omega, by omega⟩
theorem sq_scan0 {L : Nat → Nat} {n : Nat} {R : Nat → Bool} (hn : n ≤ 200) (H : sq_Hi L n R) {m x : Nat} (hm : m < 2048) (h1 : sq_k L n (8 * (m / 8)) ≤ x) (h2 : x ≤ sq_k L n m)
    (hR : R (m / 8 + x) = false) : x = sq_k L n m := by
  have hb := sq_kle L n m
  by_cases h : x < sq_k L n m
  · obtain ⟨q, hq, a1, a2, a3⟩ := sq_kiv (show n ≤ 256 by omega) m h1 h
    have : R (m / 8 + x) = true := (H _ (by omega)).mpr ⟨q, hq, by omega⟩
    rw [hR] at this
    exact absurd this (by decide)
  · omega
theorem sq_kstep {L : Nat → Nat} {n : Nat} (hn : n ≤ 256) : ∀ d a, sq_k L n (a + d) ≤ sq_k L n a + d := by
  intro d
  induction d with
  | zero => intro a; exact Nat.le_refl _
  | succ d ih =>
    intro a
    have := ih a
    rw [← Nat.add_assoc]
    by_cases h : ∃ q, q < n ∧ 256 * L q + q = a + d
    · obtain ⟨q, hq, e⟩ := h
      rw [← e, sq_kt n hn hq, e]; omega
    · rw [sq_kf n (fun q hq e => h ⟨q, hq, e⟩)]; omega
/-- the numbers from letter * 256 on, below letter * 256 + i: the letter's places before i -/
theorem sq_krank {L : Nat → Nat} {n l i : Nat} (hn : n ≤ 200) (hi : i ≤ n) : sq_k L n (256 * l + i) = sq_k L n (256 * l) + sq_c (fun q => decide (L q = l)) i := by
  induction i with
  | zero => rfl
  | succ i ih =>
    have ih' := ih (by omega)
    rw [← Nat.add_assoc]
    by_cases h : L i = l
    · rw [sq_ct (by simpa using h)]
      have := sq_kt (L := L) (q := i) n (by omega) (by omega)
      rw [h] at this
      omega
    · rw [sq_cf (by simpa using h), sq_kf n (fun q hq e => h (by
        have : q = i := by omega
        subst this; omega))]
      exact ih'
