-- Part 07: the lengths when all groups are joined.
/-- the only letter of a list gets one bit -/
def sq_fl (cnt len : Nat → Nat) : Nat → Nat := fun l => if 0 < cnt l ∧ len l = 0 then 1 else len l
theorem sq_sle1 {f : Nat → Nat} {a b : Nat} (ne : a ≠ b) : ∀ i, a < i → b < i → f a + f b ≤ sq_s f i := by
  intro i
  induction i with
  | zero => intro h; omega
  | succ i ih =>
    intro ha hb
    rw [sq_ss]
    by_cases e1 : a = i
    · subst e1
      have := sq_s1 (f := f) (a := b) a (by omega)
      omega
    · by_cases e2 : b = i
      · subst e2
        have := sq_s1 (f := f) (a := a) b (by omega)
        omega
      · have := ih (by omega) (by omega)
        omega
/-- all joined: what the words are worth -/
def sq_OK (cnt len : Nat → Nat) : Prop :=
  (∀ l, l < 8 → 0 < cnt l → 1 ≤ len l ∧ len l ≤ 7) ∧ (∀ l, l < 8 → cnt l = 0 → len l = 0) ∧ ∀ s, s ≤ 7 → sq_K len s ≤ 128
theorem sq_fin {cnt len gr w : Nat → Nat} {j : Nat} (H : sq_HI cnt len gr w j) (hj : j ≤ 7) (hs : sq_se w = none) : sq_OK cnt (sq_fl cnt len) := by
  obtain ⟨h1, h2, h3⟩ := H
  have wl : ∀ l, l < 8 → cnt l ≤ w (gr l) := by
    intro l hl
    rw [h2 _ (h1 l hl).1]
    have a := sq_s1 (f := fun k => if gr k = gr l then cnt k else 0) (a := l) 8 hl
    rw [if_pos rfl] at a
    exact a
  refine ⟨?_, ?_, ?_⟩
  · intro l hl hc
    have := (h1 l hl).2.1
    unfold sq_fl
    by_cases e : len l = 0
    · rw [if_pos ⟨hc, e⟩]; omega
    · rw [if_neg (fun z => e z.2)]; omega
  · intro l hl hc
    unfold sq_fl
    rw [if_neg (by omega)]
    exact ((h1 l hl).2.2 hc).1
  · intro s hs7
    rcases sq_se_none hs with hz | ⟨f, hf, _, lf, hz⟩
    · have : sq_K (sq_fl cnt len) s = 0 := sq_s0 8 (fun l hl => by
        have c := wl l hl
        rw [hz _ (h1 l hl).1] at c
        have d := ((h1 l hl).2.2 (by omega)).1
        have e : sq_fl cnt len l = 0 := by unfold sq_fl; rw [if_neg (by omega)]; exact d
        show (if 1 ≤ sq_fl cnt len l ∧ sq_fl cnt len l ≤ s then 2 ^ (7 - sq_fl cnt len l) else 0) = 0
        rw [e, if_neg (by omega)])
      omega
    · have grf : ∀ l, l < 8 → 0 < cnt l → gr l = f := by
        intro l hl hc
        by_cases e : gr l = f
        · exact e
        · have a := wl l hl
          rw [hz _ (h1 l hl).1 e] at a
          omega
      have kf := h3 f hf lf
      rw [← kf]
      refine sq_sle 8 (fun l hl => ?_)
      show (if 1 ≤ sq_fl cnt len l ∧ sq_fl cnt len l ≤ s then 2 ^ (7 - sq_fl cnt len l) else 0) ≤ (if gr l = f then 2 ^ (7 - len l) else 0)
      by_cases hc : 0 < cnt l
      · rw [if_pos (grf l hl hc)]
        have a : len l ≤ sq_fl cnt len l := by
          unfold sq_fl
          split <;> omega
        have b : 2 ^ (7 - sq_fl cnt len l) ≤ 2 ^ (7 - len l) := Nat.pow_le_pow_right (by decide) (by omega)
        split
        · exact b
        · exact Nat.zero_le _
      · have d := ((h1 l hl).2.2 (by omega)).1
        have e : sq_fl cnt len l = 0 := by unfold sq_fl; rw [if_neg (by omega)]; exact d
        rw [e, if_neg (by omega)]
        exact Nat.zero_le _
/-- the cost of the words in the end -/
theorem sq_cofl {cnt len gr w : Nat → Nat} {j : Nat} (H : sq_HI cnt len gr w j) (hj : j ≤ 7) (hs : sq_se w = none) (h2l : sq_se cnt ≠ none) : sq_co cnt (sq_fl cnt len) = sq_co cnt len := by
  obtain ⟨h1, h2, h3⟩ := H
  have wl : ∀ l, l < 8 → cnt l ≤ w (gr l) := by
    intro l hl
    rw [h2 _ (h1 l hl).1]
    have a := sq_s1 (f := fun k => if gr k = gr l then cnt k else 0) (a := l) 8 hl
    rw [if_pos rfl] at a
    exact a
  obtain ⟨b, hb⟩ := Option.ne_none_iff_exists'.mp h2l
  obtain ⟨a, _, ha8, hb8, ne, la, lb, _, _⟩ := sq_se_some hb
  refine sq_scg 8 (fun l hl => ?_)
  by_cases hc : 0 < cnt l ∧ len l = 0
  · -- then the group of l has l alone, yet a and b are in it
    exfalso
    rcases sq_se_none hs with hz | ⟨f, hf, _, lf, hz⟩
    · have := wl l hl
      rw [hz _ (h1 l hl).1] at this
      omega
    · have grf : ∀ l, l < 8 → 0 < cnt l → gr l = f := by
        intro l hl hc
        by_cases e : gr l = f
        · exact e
        · have a := wl l hl
          rw [hz _ (h1 l hl).1 e] at a
          omega
      have kf := h3 f hf lf
      obtain ⟨k, hk8, hkl, lk⟩ : ∃ k, k < 8 ∧ l ≠ k ∧ 0 < cnt k := by
        by_cases e : l = a
        · exact ⟨b, hb8, by omega, lb⟩
        · exact ⟨a, ha8, e, la⟩
      have t := sq_sle1 (f := fun l => if gr l = f then 2 ^ (7 - len l) else 0) hkl 8 hl hk8
      have t1 : (if gr l = f then 2 ^ (7 - len l) else 0) = 128 := by
        rw [if_pos (grf l hl hc.1), hc.2]
      have t2 : 0 < (if gr k = f then 2 ^ (7 - len k) else 0) := by
        rw [if_pos (grf k hk8 lk)]
        exact Nat.pow_pos (by decide)
      rw [kf, t1] at t
      omega
  · show cnt l * sq_fl cnt len l = cnt l * len l
    have : sq_fl cnt len l = len l := if_neg hc
    rw [this]
/-- a list of one letter, or none: a bit for each place -/
theorem sq_co1 {cnt : Nat → Nat} (hs : sq_se cnt = none) : sq_co cnt (sq_fl cnt (fun _ => 0)) = sq_s cnt 8 := by
  refine sq_scg 8 (fun l _ => ?_)
  show cnt l * (if 0 < cnt l ∧ (0 : Nat) = 0 then 1 else 0) = cnt l
  by_cases h : 0 < cnt l
  · rw [if_pos ⟨h, rfl⟩, Nat.mul_one]
  · rw [if_neg (fun z => h z.1)]; omega
/-- the answer of bits -/
def sq_bits (cnt : Nat → Nat) (n : Nat) : Nat := if sq_se cnt = none then n else sq_hf 7 cnt
theorem sq_bits600 {cnt : Nat → Nat} {n : Nat} (h : sq_s cnt 8 = n) (hn : n ≤ 200) : sq_bits cnt n ≤ 600 := by
  have := sq_hf3 h 7
  unfold sq_bits
  split <;> omega
