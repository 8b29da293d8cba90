-- Part 05: The code engine: lengths by joining groups (Kraft), canonical words, reading.
def sq_s (f : Nat → Nat) : Nat → Nat
  | 0 => 0
  | i + 1 => sq_s f i + f i
theorem sq_ss (f : Nat → Nat) (i : Nat) : sq_s f (i + 1) = sq_s f i + f i := rfl
theorem sq_scg {f g : Nat → Nat} : ∀ i, (∀ j, j < i → f j = g j) → sq_s f i = sq_s g i := by
  intro i
  induction i with
  | zero => intro _; rfl
  | succ i ih => intro h; rw [sq_ss, sq_ss, ih (fun j hj => h j (by omega)), h i (by omega)]
theorem sq_sadd (f g : Nat → Nat) : ∀ i, sq_s (fun j => f j + g j) i = sq_s f i + sq_s g i := by
  intro i
  induction i with
  | zero => rfl
  | succ i ih => rw [sq_ss, sq_ss, sq_ss, ih]; omega
theorem sq_smul (c : Nat) (f : Nat → Nat) : ∀ i, sq_s (fun j => c * f j) i = c * sq_s f i := by
  intro i
  induction i with
  | zero => rfl
  | succ i ih => rw [sq_ss, sq_ss, ih, Nat.mul_add]
theorem sq_sle {f g : Nat → Nat} : ∀ i, (∀ j, j < i → f j ≤ g j) → sq_s f i ≤ sq_s g i := by
  intro i
  induction i with
  | zero => intro _; exact Nat.le_refl _
  | succ i ih =>
    intro h
    have a := ih (fun j hj => h j (by omega))
    have b := h i (by omega)
    rw [sq_ss, sq_ss]; omega
theorem sq_s0 {f : Nat → Nat} : ∀ i, (∀ j, j < i → f j = 0) → sq_s f i = 0 := by
  intro i
  induction i with
  | zero => intro _; rfl
  | succ i ih => intro h; rw [sq_ss, ih (fun j hj => h j (by omega)), h i (by omega)]
theorem sq_s1 {f : Nat → Nat} {a : Nat} : ∀ i, a < i → f a ≤ sq_s f i := by
  intro i
  induction i with
  | zero => intro h; omega
  | succ i ih =>
    intro h
    rw [sq_ss]
    by_cases e : a = i
    · subst e; omega
    · have := ih (by omega); omega
/-- after j joins: groups, weights, lengths -/
def sq_HI (cnt len gr w : Nat → Nat) (j : Nat) : Prop :=
  (∀ l, l < 8 → gr l < 8 ∧ len l ≤ j ∧ (cnt l = 0 → len l = 0 ∧ gr l = l ∧ w l = 0)) ∧
  (∀ g, g < 8 → w g = sq_s (fun l => if gr l = g then cnt l else 0) 8) ∧
  (∀ g, g < 8 → 0 < w g → sq_s (fun l => if gr l = g then 2 ^ (7 - len l) else 0) 8 = 128)
def sq_jl (len gr : Nat → Nat) (f s : Nat) : Nat → Nat := fun l => if gr l = f ∨ gr l = s then len l + 1 else len l
def sq_jg (gr : Nat → Nat) (f s : Nat) : Nat → Nat := fun l => if gr l = f ∨ gr l = s then f else gr l
def sq_jw (w : Nat → Nat) (f s : Nat) : Nat → Nat := fun g => if g = s then 0 else if g = f then w f + w s else w g
theorem sq_HIj {cnt len gr w : Nat → Nat} {j f s : Nat} (H : sq_HI cnt len gr w j) (hj : j < 7) (hf : f < 8) (hs : s < 8) (ne : f ≠ s) (lf : 0 < w f) (ls : 0 < w s) :
    sq_HI cnt (sq_jl len gr f s) (sq_jg gr f s) (sq_jw w f s) (j + 1) := by
  obtain ⟨h1, h2, h3⟩ := H
  refine ⟨?_, ?_, ?_⟩
  · intro l hl
    obtain ⟨a, b, c⟩ := h1 l hl
    unfold sq_jl sq_jg sq_jw
    refine ⟨?_, ?_, ?_⟩
    · split <;> omega
    · split <;> omega
    · intro hc
      obtain ⟨c1, c2, c3⟩ := c hc
      have n1 : l ≠ f := fun e => by subst e; omega
      have n2 : l ≠ s := fun e => by subst e; omega
      have n3 : ¬ (gr l = f ∨ gr l = s) := by rw [c2]; omega
      rw [if_neg n3, if_neg n3, if_neg n2, if_neg n1]
      exact ⟨c1, c2, c3⟩
  · intro g hg
    unfold sq_jg sq_jw
    by_cases e1 : g = s
    · rw [if_pos e1]
      refine (sq_s0 8 (fun l _ => ?_)).symm
      by_cases e2 : gr l = f ∨ gr l = s
      · rw [if_pos e2, if_neg (by omega)]
      · rw [if_neg e2, if_neg (by omega)]
    · rw [if_neg e1]
      by_cases e3 : g = f
      · rw [if_pos e3, h2 f hf, h2 s hs, ← sq_sadd]
        refine sq_scg 8 (fun l _ => ?_)
        by_cases a1 : gr l = f
        · rw [if_pos a1, if_neg (by omega), if_pos (Or.inl a1), if_pos e3.symm]; omega
        · by_cases a2 : gr l = s
          · rw [if_neg a1, if_pos a2, if_pos (Or.inr a2), if_pos e3.symm]; omega
          · have a3 : ¬ (gr l = f ∨ gr l = s) := fun z => z.elim a1 a2
            rw [if_neg a1, if_neg a2, if_neg a3, if_neg (show ¬ gr l = g from fun z => a1 (z.trans e3))]
      · rw [if_neg e3, h2 g hg]
        refine sq_scg 8 (fun l _ => ?_)
        by_cases a : gr l = f ∨ gr l = s
        · rw [if_pos a, if_neg (by omega), if_neg (by omega)]
        · rw [if_neg a]
  · intro g hg
    unfold sq_jw
    intro hw
    by_cases e1 : g = s
    · rw [if_pos e1] at hw; omega
    · rw [if_neg e1] at hw
      by_cases e3 : g = f
      · subst e3
        have k1 := h3 g hf lf
        have k2 := h3 s hs ls
        have k3 : 2 * sq_s (fun l => if sq_jg gr g s l = g then 2 ^ (7 - sq_jl len gr g s l) else 0) 8 = sq_s (fun l => if gr l = g then 2 ^ (7 - len l) else 0) 8 + sq_s (fun l => if gr l = s then 2 ^ (7 - len l) else 0) 8 := by
          rw [← sq_smul, ← sq_sadd]
          refine sq_scg 8 (fun l hl => ?_)
          have hb := (h1 l hl).2.1
          have pw : 2 ^ (7 - len l) = 2 * 2 ^ (7 - (len l + 1)) := by
            rw [show 7 - len l = 7 - (len l + 1) + 1 by omega, Nat.pow_succ, Nat.mul_comm]
          unfold sq_jg sq_jl
          by_cases a1 : gr l = g
          · rw [if_pos (Or.inl a1), if_pos (Or.inl a1), if_pos rfl, if_pos a1, if_neg (by omega), pw]; omega
          · by_cases a2 : gr l = s
            · rw [if_pos (Or.inr a2), if_pos (Or.inr a2), if_pos rfl, if_neg a1, if_pos a2, pw]; omega
            · have a3 : ¬ (gr l = g ∨ gr l = s) := fun z => z.elim a1 a2
              rw [if_neg a3, if_neg a3, if_neg a1, if_neg a2]
        rw [k1, k2] at k3
        omega
      · rw [if_neg e3] at hw
        rw [← h3 g hg hw]
        refine sq_scg 8 (fun l _ => ?_)
        unfold sq_jg sq_jl
        by_cases a : gr l = f ∨ gr l = s
        · rw [if_pos a, if_neg (by omega), if_neg (by omega)]
        · rw [if_neg a, if_neg a]
-- ---- canonical words ----
/-- how many words have s bits -/
def sq_n (len : Nat → Nat) (s : Nat) : Nat := sq_c (fun l => decide (len l = s)) 8
/-- the first word of s bits -/
def sq_f (len : Nat → Nat) : Nat → Nat
  | 0 => 0
  | 1 => 0
  | s + 2 => 2 * (sq_f len (s + 1) + sq_n len (s + 1))
/-- how many words have less than s bits (1 at least) -/
def sq_i (len : Nat → Nat) : Nat → Nat
  | 0 => 0
  | 1 => 0
  | s + 2 => sq_i len (s + 1) + sq_n len (s + 1)
def sq_w (len : Nat → Nat) (l : Nat) : Nat := sq_f len (len l) + sq_c (fun k => decide (len k = len l)) l
/-- Kraft's sum over the words of 1 .. s bits, in parts of 128 -/
def sq_K (len : Nat → Nat) (s : Nat) : Nat := sq_s (fun l => if 1 ≤ len l ∧ len l ≤ s then 2 ^ (7 - len l) else 0) 8
theorem sq_Ks (len : Nat → Nat) {s : Nat} : sq_K len (s + 1) = sq_K len s + sq_n len (s + 1) * 2 ^ (7 - (s + 1)) := by
  unfold sq_K sq_n
  generalize 8 = m
  induction m with
  | zero => show 0 = 0 + 0 * _; rw [Nat.zero_mul]
  | succ m ih =>
    rw [sq_ss, sq_ss, sq_cs, ih]
    by_cases h : len m = s + 1
    · rw [if_pos (by omega), if_neg (by omega), if_pos (by simpa using h), h, Nat.add_mul]; omega
    · by_cases h2 : 1 ≤ len m ∧ len m ≤ s
      · rw [if_pos (by omega), if_pos h2, if_neg (by simpa using h)]; simp only [Nat.add_zero]; omega
      · rw [if_neg (by omega), if_neg h2, if_neg (by simpa using h)]; simp only [Nat.add_zero]
theorem sq_fK (len : Nat → Nat) : ∀ s, s ≤ 6 → (sq_f len (s + 1) + sq_n len (s + 1)) * 2 ^ (7 - (s + 1)) = sq_K len (s + 1) := by
  intro s
  induction s with
  | zero =>
    intro _
    rw [sq_Ks]
    have : sq_K len 0 = 0 := sq_s0 8 (fun l _ => if_neg (by omega))
    rw [this, show sq_f len (0 + 1) = 0 from rfl]; simp
  | succ s ih =>
    intro h
    rw [sq_Ks, ← ih (by omega)]
    show (2 * (sq_f len (s + 1) + sq_n len (s + 1)) + sq_n len (s + 1 + 1)) * 2 ^ (7 - (s + 1 + 1)) = _
    rw [Nat.add_mul, show 7 - (s + 1) = 7 - (s + 1 + 1) + 1 by omega, Nat.pow_succ]
    congr 1
    generalize sq_f len (s + 1) + sq_n len (s + 1) = a
    generalize 2 ^ (7 - (s + 1 + 1)) = b
    rw [Nat.mul_comm 2 a, Nat.mul_assoc, Nat.mul_comm 2 b]
/-- all words of s bits are below 2^s -/
theorem sq_fle {len : Nat → Nat} (hK : ∀ s, s ≤ 7 → sq_K len s ≤ 128) {s : Nat} (h1 : 1 ≤ s) (h7 : s ≤ 7) : sq_f len s + sq_n len s ≤ 2 ^ s := by
  have a := sq_fK len (s - 1) (by omega)
  rw [show s - 1 + 1 = s by omega] at a
  have b := hK s h7
  rw [← a] at b
  have c : (128 : Nat) = 2 ^ s * 2 ^ (7 - s) := by rw [← Nat.pow_add, show s + (7 - s) = 7 by omega]
  rw [c] at b
  exact Nat.le_of_mul_le_mul_right b (Nat.pow_pos (by decide))
/-- a longer word begins above all words of s bits -/
theorem sq_fup (len : Nat → Nat) {s : Nat} (h1 : 1 ≤ s) : ∀ d, (sq_f len s + sq_n len s) * 2 ^ (d + 1) ≤ sq_f len (s + d + 1) := by
  intro d
  induction d with
  | zero =>
    obtain ⟨t, rfl⟩ : ∃ t, s = t + 1 := ⟨s - 1, by omega⟩
    show _ ≤ 2 * (sq_f len (t + 1) + sq_n len (t + 1))
    omega
  | succ d ih =>
    show _ ≤ 2 * (sq_f len (s + d + 1) + sq_n len (s + d + 1))
    rw [Nat.pow_succ, ← Nat.mul_assoc]
    generalize (sq_f len s + sq_n len s) * 2 ^ (d + 1) = x at ih ⊢
    omega
theorem sq_wup {len : Nat → Nat} {l s : Nat} (h1 : 1 ≤ s) (h2 : s < len l) : sq_f len s + sq_n len s ≤ sq_w len l / 2 ^ (len l - s) := by
  have a := sq_fup len h1 (len l - s - 1)
  rw [show len l - s - 1 + 1 = len l - s by omega, show s + (len l - s - 1) + 1 = len l by omega] at a
  rw [Nat.le_div_iff_mul_le (Nat.pow_pos (by decide))]
  unfold sq_w
  omega
theorem sq_wlt {len : Nat → Nat} {l : Nat} (hl : l < 8) : sq_c (fun k => decide (len k = len l)) l < sq_n len (len l) := sq_clt hl (by simp)
theorem sq_sone {f : Nat → Nat} {g : Nat} : ∀ i, g < i → sq_s (fun l => if l = g then f l else 0) i = f g := by
  intro i
  induction i with
  | zero => intro h; omega
  | succ i ih =>
    intro h
    rw [sq_ss]
    by_cases e : g = i
    · subst e
      rw [if_pos rfl, sq_s0 g (fun j hj => if_neg (by omega)), Nat.zero_add]
    · rw [ih (by omega), if_neg (by omega)]
      rfl
theorem sq_HI0 (cnt : Nat → Nat) : sq_HI cnt (fun _ => 0) (fun l => l) cnt 0 := by
  unfold sq_HI
  refine ⟨?_, ?_, ?_⟩
  · intro l hl
    exact ⟨hl, Nat.le_refl _, fun h => ⟨rfl, rfl, h⟩⟩
  · intro g hg
    exact (sq_sone (f := cnt) 8 hg).symm
  · intro g hg _
    exact sq_sone (f := fun _ => 128) 8 hg
/-- what all words together cost -/
def sq_co (cnt len : Nat → Nat) : Nat := sq_s (fun l => cnt l * len l) 8
theorem sq_coj {cnt len gr w : Nat → Nat} {j f s : Nat} (H : sq_HI cnt len gr w j) (hf : f < 8) (hs : s < 8) (ne : f ≠ s) :
    sq_co cnt (sq_jl len gr f s) = sq_co cnt len + (w f + w s) := by
  obtain ⟨_, h2, _⟩ := H
  unfold sq_co
  rw [h2 f hf, h2 s hs, ← sq_sadd, ← sq_sadd]
  refine sq_scg 8 (fun l _ => ?_)
  unfold sq_jl
  by_cases a1 : gr l = f
  · rw [if_pos (Or.inl a1), if_pos a1, if_neg (by omega), Nat.mul_add]; omega
  · by_cases a2 : gr l = s
    · rw [if_pos (Or.inr a2), if_neg a1, if_pos a2, Nat.mul_add]; omega
    · rw [if_neg (fun z => z.elim a1 a2), if_neg a1, if_neg a2]; omega
/-- the stream's length by places is the words' cost -/
theorem sq_swap (L len : Nat → Nat) (hL : ∀ j, L j < 8) : ∀ i, sq_s (fun j => len (L j)) i = sq_co (fun l => sq_c (fun q => decide (L q = l)) i) len := by
  intro i
  induction i with
  | zero =>
    refine (sq_s0 8 (fun l _ => ?_)).symm
    show 0 * len l = 0
    exact Nat.zero_mul _
  | succ i ih =>
    rw [sq_ss, ih]
    unfold sq_co
    rw [← sq_sone (f := len) 8 (hL i), ← sq_sadd]
    refine sq_scg 8 (fun l _ => ?_)
    show sq_c (fun q => decide (L q = l)) i * len l + (if l = L i then len l else 0) = sq_c (fun q => decide (L q = l)) (i + 1) * len l
    by_cases e : L i = l
    · rw [if_pos e.symm, sq_ct (decide_eq_true e), Nat.add_mul, Nat.one_mul]
    · rw [if_neg (fun z => e z.symm), sq_cf (decide_eq_false e)]; rfl
theorem sq_cnts (L : Nat → Nat) (hL : ∀ j, L j < 8) (i : Nat) : sq_s (fun l => sq_c (fun q => decide (L q = l)) i) 8 = i := by
  have a := sq_swap L (fun _ => 1) hL i
  have b : sq_s (fun _ => 1) i = i := by
    have : ∀ i, sq_s (fun _ => 1) i = i := by
      intro i
      induction i with
      | zero => rfl
      | succ i ih => rw [sq_ss, ih]
    exact this i
  have c : sq_co (fun l => sq_c (fun q => decide (L q = l)) i) (fun _ => 1) = sq_s (fun l => sq_c (fun q => decide (L q = l)) i) 8 := sq_scg 8 (fun l _ => Nat.mul_one _)
  have a' : sq_s (fun _ => 1) i = sq_co (fun l => sq_c (fun q => decide (L q = l)) i) (fun _ => 1) := a
  rw [b, c] at a'
  exact a'.symm
-- ---- where a word's letter stands among all, in the order of the words ----
theorem sq_ile (len : Nat → Nat) : ∀ s, sq_i len (s + 1) = sq_c (fun l => decide (1 ≤ len l ∧ len l ≤ s)) 8 := by
  intro s
  induction s with
  | zero => exact (sq_cnone 8 (fun j _ => decide_eq_false (by omega))).symm
  | succ s ih =>
    show sq_i len (s + 1) + sq_n len (s + 1) = _
    rw [ih, sq_cspl (fun l => decide (1 ≤ len l ∧ len l ≤ s + 1)) (fun l => decide (1 ≤ len l ∧ len l ≤ s)) 8]
    congr 1
    · refine sq_ccg 8 (fun l _ => ?_)
      show decide (1 ≤ len l ∧ len l ≤ s) = (decide (1 ≤ len l ∧ len l ≤ s + 1) && decide (1 ≤ len l ∧ len l ≤ s))
      rw [← Bool.decide_and]
      exact decide_eq_decide.mpr (by omega)
    · refine sq_ccg 8 (fun l _ => ?_)
      show decide (len l = s + 1) = (decide (1 ≤ len l ∧ len l ≤ s + 1) && !decide (1 ≤ len l ∧ len l ≤ s))
      rw [← decide_not, ← Bool.decide_and]
      exact decide_eq_decide.mpr (by omega)
theorem sq_i8 (len : Nat → Nat) (s : Nat) : sq_i len (s + 1) ≤ 8 := by rw [sq_ile]; exact sq_cle _ 8
theorem sq_imono (len : Nat → Nat) {a : Nat} : ∀ b, a ≤ b → sq_i len (a + 1) ≤ sq_i len (b + 1) := by
  intro b
  induction b with
  | zero => intro h; rw [show a = 0 by omega]; exact Nat.le_refl _
  | succ b ih =>
    intro h
    by_cases e : a = b + 1
    · rw [e]; exact Nat.le_refl _
    · have := ih (by omega)
      show _ ≤ sq_i len (b + 1) + sq_n len (b + 1)
      omega
/-- a letter's place in the order of words -/
def sq_ix (len : Nat → Nat) (l : Nat) : Nat := sq_i len (len l) + sq_c (fun k => decide (len k = len l)) l
theorem sq_ixlt {len : Nat → Nat} {l s : Nat} (hl : l < 8) (h1 : 1 ≤ len l) (h2 : len l < s) : sq_ix len l < sq_i len s := by
  have a := sq_wlt (len := len) hl
  have b := sq_imono len (a := len l) (s - 1) (by omega)
  rw [show s - 1 + 1 = s by omega] at b
  have c : sq_i len (len l + 1) = sq_i len (len l) + sq_n len (len l) := by
    obtain ⟨t, e⟩ : ∃ t, len l = t + 1 := ⟨len l - 1, by omega⟩
    rw [e]; rfl
  unfold sq_ix
  omega
theorem sq_ix8 {len : Nat → Nat} {l : Nat} (hl : l < 8) (h1 : 1 ≤ len l) : sq_ix len l < 8 := by
  have a := sq_ixlt (len := len) (s := len l + 1) hl h1 (by omega)
  have b := sq_i8 len (len l)
  omega
/-- reading: s bits of a longer word are no word of s bits; all bits of it are its number -/
theorem sq_rd {len : Nat → Nat} {l s : Nat} (hl : l < 8) (h1 : 1 ≤ s) (h2 : s ≤ len l) :
    sq_f len s ≤ sq_w len l / 2 ^ (len l - s) ∧ (s < len l → sq_n len s ≤ sq_w len l / 2 ^ (len l - s) - sq_f len s) ∧
    (s = len l → sq_w len l / 2 ^ (len l - s) - sq_f len s = sq_c (fun k => decide (len k = len l)) l ∧ sq_c (fun k => decide (len k = len l)) l < sq_n len s) := by
  by_cases e : s = len l
  · subst e
    rw [Nat.sub_self, Nat.pow_zero, Nat.div_one]
    refine ⟨Nat.le_add_right _ _, fun z => absurd z (Nat.lt_irrefl _), fun _ => ⟨?_, sq_wlt hl⟩⟩
    unfold sq_w
    omega
  · have := sq_wup (len := len) (l := l) h1 (by omega)
    exact ⟨by omega, fun _ => by omega, fun z => absurd z e⟩
/-- the next bit of a word -/
theorem sq_nx (w d : Nat) : w / 2 ^ d = 2 * (w / 2 ^ (d + 1)) + (w.testBit d).toNat := by
  rw [Nat.toNat_testBit, Nat.pow_succ, ← Nat.div_div_eq_div_mul]
  omega
theorem sq_w0 {len : Nat → Nat} (hK : ∀ s, s ≤ 7 → sq_K len s ≤ 128) {l : Nat} (hl : l < 8) (h1 : 1 ≤ len l) (h7 : len l ≤ 7) : sq_w len l < 2 ^ len l := by
  have a := sq_fle hK h1 h7
  have b := sq_wlt (len := len) hl
  unfold sq_w
  omega
