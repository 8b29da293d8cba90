-- Part 03: Tree and matrix: the arithmetic of nodes.
/-- the places before i whose letter begins with the bits p at level l (l = 0: all; l = 3: the letter itself) -/
def sq_p (L : Nat → Nat) (l p : Nat) : Nat → Nat := sq_c (fun q => decide (L q / 2 ^ (3 - l) = p))
theorem sq_pt {L : Nat → Nat} {l p q : Nat} (h : L q / 2 ^ (3 - l) = p) : sq_p L l p (q + 1) = sq_p L l p q + 1 := sq_ct (by simpa using h)
theorem sq_pf {L : Nat → Nat} {l p q : Nat} (h : ¬ L q / 2 ^ (3 - l) = p) : sq_p L l p (q + 1) = sq_p L l p q := sq_cf (by simpa using h)
theorem sq_ple (L : Nat → Nat) (l p i : Nat) : sq_p L l p i ≤ i := sq_cle _ i
theorem sq_pmono (L : Nat → Nat) (l p : Nat) {i j : Nat} (h : i ≤ j) : sq_p L l p i ≤ sq_p L l p j := sq_cmono _ h
theorem sq_pp (v : Nat) : ∀ l, l < 3 → v / 2 ^ (3 - (l + 1)) = 2 * (v / 2 ^ (3 - l)) + v / 2 ^ (2 - l) % 2 := by
  intro l hl
  match l, hl with
  | 0, _ => show v / 2 ^ 2 = 2 * (v / 2 ^ 3) + v / 2 ^ 2 % 2; omega
  | 1, _ => show v / 2 ^ 1 = 2 * (v / 2 ^ 2) + v / 2 ^ 1 % 2; omega
  | 2, _ => show v / 2 ^ 0 = 2 * (v / 2 ^ 1) + v / 2 ^ 0 % 2; omega
/-- a node's places are those of its two children -/
theorem sq_p2 (L : Nat → Nat) {l : Nat} (hl : l < 3) (p : Nat) : ∀ i, sq_p L l p i = sq_p L (l + 1) (2 * p) i + sq_p L (l + 1) (2 * p + 1) i := by
  intro i
  induction i with
  | zero => rfl
  | succ i ih =>
    have e := sq_pp (L i) l hl
    by_cases h : L i / 2 ^ (3 - l) = p
    · rw [sq_pt h]
      by_cases h1 : L i / 2 ^ (2 - l) % 2 = 1
      · rw [sq_pf (l := l + 1) (p := 2 * p) (by omega), sq_pt (l := l + 1) (p := 2 * p + 1) (by omega)]; omega
      · rw [sq_pt (l := l + 1) (p := 2 * p) (by omega), sq_pf (l := l + 1) (p := 2 * p + 1) (by omega)]; omega
    · rw [sq_pf h, sq_pf (l := l + 1) (p := 2 * p) (by omega), sq_pf (l := l + 1) (p := 2 * p + 1) (by omega)]; exact ih
/-- row l holds, from slot st p on, the bits of node p -/
def sq_Row (L : Nat → Nat) (n l : Nat) (st : Nat → Nat) (R : Nat → Bool) : Prop :=
  ∀ q, q < n → R (256 * l + (st (L q / 2 ^ (3 - l)) + sq_p L l (L q / 2 ^ (3 - l)) q)) = decide (L q / 2 ^ (2 - l) % 2 = 1)
/-- the ones before a slot of row l -/
def sq_o (R : Nat → Bool) (l s : Nat) : Nat := sq_c (fun t => R (256 * l + t)) s
theorem sq_rowones {L : Nat → Nat} {n l : Nat} {st : Nat → Nat} {R : Nat → Bool} (hl : l < 3) (H : sq_Row L n l st R) (p : Nat) :
    ∀ i, i ≤ n → sq_o R l (st p + sq_p L l p i) = sq_o R l (st p) + sq_p L (l + 1) (2 * p + 1) i := by
  intro i
  induction i with
  | zero => intro _; rfl
  | succ i ih =>
    intro hi
    have ih' := ih (by omega)
    have e := sq_pp (L i) l hl
    by_cases h : L i / 2 ^ (3 - l) = p
    · have b := H i (by omega)
      rw [h] at b
      rw [sq_pt h, ← Nat.add_assoc]
      by_cases h1 : L i / 2 ^ (2 - l) % 2 = 1
      · rw [sq_pt (l := l + 1) (p := 2 * p + 1) (by omega)]
        have : sq_o R l (st p + sq_p L l p i + 1) = sq_o R l (st p + sq_p L l p i) + 1 := sq_ct (by rw [b]; simpa using h1)
        omega
      · rw [sq_pf (l := l + 1) (p := 2 * p + 1) (by omega)]
        have : sq_o R l (st p + sq_p L l p i + 1) = sq_o R l (st p + sq_p L l p i) := sq_cf (by rw [b]; simpa using h1)
        omega
    · rw [sq_pf h, sq_pf (l := l + 1) (p := 2 * p + 1) (by omega)]
      exact ih'
/-- the start of node p in the tree's row l -/
def sq_st (L : Nat → Nat) (n l : Nat) : Nat → Nat
  | 0 => 0
  | p + 1 => sq_st L n l p + sq_p L l p n
theorem sq_st2 (L : Nat → Nat) (n : Nat) {l : Nat} (hl : l < 3) : ∀ p, sq_st L n (l + 1) (2 * p) = sq_st L n l p := by
  intro p
  induction p with
  | zero => rfl
  | succ p ih =>
    show sq_st L n (l + 1) (2 * p) + sq_p L (l + 1) (2 * p) n + sq_p L (l + 1) (2 * p + 1) n = sq_st L n l p + sq_p L l p n
    rw [ih, sq_p2 L hl p n]; omega
theorem sq_st3 (L : Nat → Nat) (n : Nat) {l : Nat} (hl : l < 3) (p : Nat) : sq_st L n (l + 1) (2 * p + 1) = sq_st L n l p + sq_p L (l + 1) (2 * p) n := by
  show sq_st L n (l + 1) (2 * p) + sq_p L (l + 1) (2 * p) n = _
  rw [sq_st2 L n hl p]
/-- all nodes together have no more than n places -/
theorem sq_stlt (L : Nat → Nat) (n l : Nat) : ∀ p, sq_st L n l p = sq_c (fun q => decide (L q / 2 ^ (3 - l) < p)) n := by
  intro p
  induction p with
  | zero => exact (sq_cnone n (fun j _ => by simp)).symm
  | succ p ih =>
    show sq_st L n l p + sq_p L l p n = _
    rw [ih, sq_cspl (fun q => decide (L q / 2 ^ (3 - l) < p + 1)) (fun q => decide (L q / 2 ^ (3 - l) < p)) n]
    congr 1
    · exact sq_ccg n (fun j _ => by by_cases h : L j / 2 ^ (3 - l) < p <;> simp [h] <;> omega)
    · exact sq_ccg n (fun j _ => by
        by_cases h : L j / 2 ^ (3 - l) = p
        · simp [h]
        · by_cases h2 : L j / 2 ^ (3 - l) < p
          · simp [h2]; omega
          · simp [h, h2]; omega)
theorem sq_stle (L : Nat → Nat) (n l p : Nat) : sq_st L n l p ≤ n := by rw [sq_stlt]; exact sq_cle _ n
theorem sq_sten (L : Nat → Nat) (n l p : Nat) : sq_st L n l p + sq_p L l p n ≤ n := sq_stle L n l (p + 1)
/-- a step of treeRank and treeLetter: ones within the node, and where its right child begins -/
theorem sq_tstep {L : Nat → Nat} {n l : Nat} {R : Nat → Bool} (hl : l < 3) (H : sq_Row L n l (sq_st L n l) R) (p : Nat) {i : Nat} (hi : i ≤ n) :
    sq_o R l (sq_st L n l p + sq_p L l p i) = sq_o R l (sq_st L n l p) + sq_p L (l + 1) (2 * p + 1) i
    ∧ sq_st L n l p + sq_p L l p n - (sq_o R l (sq_st L n l p + sq_p L l p n) - sq_o R l (sq_st L n l p)) = sq_st L n (l + 1) (2 * p + 1)
    ∧ sq_p L l p i - sq_p L (l + 1) (2 * p + 1) i = sq_p L (l + 1) (2 * p) i := by
  have a := sq_rowones hl H p i hi
  have b := sq_rowones hl H p n (Nat.le_refl n)
  have c := sq_st3 L n hl p
  have d := sq_p2 L hl p n
  have e := sq_p2 L hl p i
  refine ⟨a, ?_, ?_⟩ <;> omega
-- ---- matrix: node order 0 | 0, 1 | 0, 2, 1, 3 ----
def sq_mst (L : Nat → Nat) (n l p : Nat) : Nat :=
  if l = 2 then (if p = 0 then 0 else if p = 2 then sq_p L 2 0 n else if p = 1 then sq_p L 2 0 n + sq_p L 2 2 n else sq_p L 2 0 n + sq_p L 2 2 n + sq_p L 2 1 n)
  else if p = 0 then 0 else sq_p L 1 0 n
/-- the zeros of row l: the letters whose bit is 0 -/
def sq_mz (L : Nat → Nat) (n : Nat) (l : Nat) : Nat :=
  if l = 0 then sq_p L 1 0 n else if l = 1 then sq_p L 2 0 n + sq_p L 2 2 n else sq_p L 3 0 n + sq_p L 3 2 n + sq_p L 3 4 n + sq_p L 3 6 n
theorem sq_p0 {L : Nat → Nat} (hL : ∀ j, L j < 8) : ∀ n, sq_p L 0 0 n = n := fun n => sq_call n (fun j _ => by
  have := hL j
  show decide (L j / 2 ^ 3 = 0) = true
  exact decide_eq_true (by omega))
/-- the step of matrixRank and matrixLetter from node p of row l to its children, l = 0, 1 -/
theorem sq_mstep {L : Nat → Nat} {n l : Nat} {R : Nat → Bool} (hl : l < 2) (H : sq_Row L n l (sq_mst L n l) R) {p : Nat} (hp : p < 2 ^ l) {i : Nat} (hi : i ≤ n) :
    sq_mst L n l p + sq_p L l p i - sq_o R l (sq_mst L n l p + sq_p L l p i) = sq_mst L n (l + 1) (2 * p) + sq_p L (l + 1) (2 * p) i
    ∧ sq_o R l (sq_mst L n l p + sq_p L l p i) ≤ sq_mst L n l p + sq_p L l p i
    ∧ sq_mz L n l + sq_o R l (sq_mst L n l p + sq_p L l p i) = sq_mst L n (l + 1) (2 * p + 1) + sq_p L (l + 1) (2 * p + 1) i := by
  have a := sq_rowones (show l < 3 by omega) H p i hi
  have b := sq_rowones (show l < 3 by omega) H 0 n (Nat.le_refl n)
  have c := sq_p2 L (show l < 3 by omega) p i
  have d := sq_p2 L (show l < 3 by omega) 0 n
  have z : sq_o R l (sq_mst L n l p + sq_p L l p i) ≤ sq_mst L n l p + sq_p L l p i := sq_cle (fun t => R (256 * l + t)) (sq_mst L n l p + sq_p L l p i)
  have hl' : l = 0 ∨ l = 1 := by omega
  rcases hl' with rfl | rfl
  · have hp' : p = 0 := by
      have : (2 : Nat) ^ 0 = 1 := rfl
      omega
    subst hp'
    have a' : sq_o R 0 (0 + sq_p L 0 0 i) = 0 + sq_p L 1 1 i := a
    have c' : sq_p L 0 0 i = sq_p L 1 0 i + sq_p L 1 1 i := c
    have z' : sq_o R 0 (0 + sq_p L 0 0 i) ≤ 0 + sq_p L 0 0 i := z
    show 0 + sq_p L 0 0 i - sq_o R 0 (0 + sq_p L 0 0 i) = 0 + sq_p L 1 0 i ∧ sq_o R 0 (0 + sq_p L 0 0 i) ≤ 0 + sq_p L 0 0 i ∧ sq_p L 1 0 n + sq_o R 0 (0 + sq_p L 0 0 i) = sq_p L 1 0 n + sq_p L 1 1 i
    refine ⟨?_, z', ?_⟩ <;> omega
  · have b' : sq_o R 1 (0 + sq_p L 1 0 n) = 0 + sq_p L 2 1 n := b
    have d' : sq_p L 1 0 n = sq_p L 2 0 n + sq_p L 2 1 n := d
    rw [Nat.zero_add] at b'
    have hp' : p = 0 ∨ p = 1 := by
      have : (2 : Nat) ^ 1 = 2 := rfl
      omega
    rcases hp' with rfl | rfl
    · have a' : sq_o R 1 (0 + sq_p L 1 0 i) = 0 + sq_p L 2 1 i := a
      have c' : sq_p L 1 0 i = sq_p L 2 0 i + sq_p L 2 1 i := c
      have z' : sq_o R 1 (0 + sq_p L 1 0 i) ≤ 0 + sq_p L 1 0 i := z
      show 0 + sq_p L 1 0 i - sq_o R 1 (0 + sq_p L 1 0 i) = 0 + sq_p L 2 0 i ∧ sq_o R 1 (0 + sq_p L 1 0 i) ≤ 0 + sq_p L 1 0 i ∧ sq_p L 2 0 n + sq_p L 2 2 n + sq_o R 1 (0 + sq_p L 1 0 i) = sq_p L 2 0 n + sq_p L 2 2 n + sq_p L 2 1 i
      refine ⟨?_, z', ?_⟩ <;> omega
    · have a' : sq_o R 1 (sq_p L 1 0 n + sq_p L 1 1 i) = sq_o R 1 (sq_p L 1 0 n) + sq_p L 2 3 i := a
      have c' : sq_p L 1 1 i = sq_p L 2 2 i + sq_p L 2 3 i := c
      have z' : sq_o R 1 (sq_p L 1 0 n + sq_p L 1 1 i) ≤ sq_p L 1 0 n + sq_p L 1 1 i := z
      show sq_p L 1 0 n + sq_p L 1 1 i - sq_o R 1 (sq_p L 1 0 n + sq_p L 1 1 i) = sq_p L 2 0 n + sq_p L 2 2 i ∧ sq_o R 1 (sq_p L 1 0 n + sq_p L 1 1 i) ≤ sq_p L 1 0 n + sq_p L 1 1 i ∧ sq_p L 2 0 n + sq_p L 2 2 n + sq_o R 1 (sq_p L 1 0 n + sq_p L 1 1 i) = sq_p L 2 0 n + sq_p L 2 2 n + sq_p L 2 1 n + sq_p L 2 3 i
      refine ⟨?_, z', ?_⟩ <;> omega
/-- the last row: only the difference counts -/
theorem sq_mlast {L : Nat → Nat} {n : Nat} {R : Nat → Bool} (H : sq_Row L n 2 (sq_mst L n 2) R) (p : Nat) {i : Nat} (hi : i ≤ n) :
    sq_o R 2 (sq_mst L n 2 p + sq_p L 2 p i) = sq_o R 2 (sq_mst L n 2 p) + sq_p L 3 (2 * p + 1) i
    ∧ sq_p L 2 p i = sq_p L 3 (2 * p) i + sq_p L 3 (2 * p + 1) i :=
  ⟨sq_rowones (by decide) H p i hi, sq_p2 L (by decide) p i⟩
/-- a letter's places -/
theorem sq_p3 (L : Nat → Nat) (l i : Nat) : sq_p L 3 l i = sq_c (fun q => decide (L q = l)) i := sq_ccg i (fun j _ => by
  show decide (L j / 2 ^ 0 = l) = _
  rw [Nat.pow_zero, Nat.div_one])
/-- the bounds of the matrix's nodes -/
theorem sq_mle {L : Nat → Nat} (hL : ∀ j, L j < 8) (n : Nat) {l p : Nat} (hl : l < 3) (hp : p < 2 ^ l) : sq_mst L n l p + sq_p L l p n ≤ n := by
  have h0 := sq_p0 hL n
  have a := sq_p2 L (show 0 < 3 by omega) 0 n
  have b := sq_p2 L (show 1 < 3 by omega) 0 n
  have c := sq_p2 L (show 1 < 3 by omega) 1 n
  have a' : sq_p L 0 0 n = sq_p L 1 0 n + sq_p L 1 1 n := a
  have b' : sq_p L 1 0 n = sq_p L 2 0 n + sq_p L 2 1 n := b
  have c' : sq_p L 1 1 n = sq_p L 2 2 n + sq_p L 2 3 n := c
  have hl' : l = 0 ∨ l = 1 ∨ l = 2 := by omega
  rcases hl' with rfl | rfl | rfl
  · have hp' : p = 0 := by
      have : (2 : Nat) ^ 0 = 1 := rfl
      omega
    subst hp'
    show 0 + sq_p L 0 0 n ≤ n
    omega
  · have hp' : p = 0 ∨ p = 1 := by
      have : (2 : Nat) ^ 1 = 2 := rfl
      omega
    rcases hp' with rfl | rfl
    · show 0 + sq_p L 1 0 n ≤ n
      omega
    · show sq_p L 1 0 n + sq_p L 1 1 n ≤ n
      omega
  · have hp' : p = 0 ∨ p = 1 ∨ p = 2 ∨ p = 3 := by
      have : (2 : Nat) ^ 2 = 4 := rfl
      omega
    rcases hp' with rfl | rfl | rfl | rfl
    · show 0 + sq_p L 2 0 n ≤ n
      omega
    · show sq_p L 2 0 n + sq_p L 2 2 n + sq_p L 2 1 n ≤ n
      omega
    · show sq_p L 2 0 n + sq_p L 2 2 n ≤ n
      omega
    · show sq_p L 2 0 n + sq_p L 2 2 n + sq_p L 2 1 n + sq_p L 2 3 n ≤ n
      omega
theorem sq_mzeros {L : Nat → Nat} {n l : Nat} {R : Nat → Bool} (hL : ∀ j, L j < 8) (hl : l < 2) (H : sq_Row L n l (sq_mst L n l) R) : n - sq_o R l n = sq_mz L n l := by
  have h0 := sq_p0 hL n
  have a := sq_p2 L (show 0 < 3 by omega) 0 n
  have a' : sq_p L 0 0 n = sq_p L 1 0 n + sq_p L 1 1 n := a
  have hl' : l = 0 ∨ l = 1 := by omega
  rcases hl' with rfl | rfl
  · have r' : sq_o R 0 (0 + sq_p L 0 0 n) = 0 + sq_p L 1 1 n := sq_rowones (show 0 < 3 by omega) H 0 n (Nat.le_refl n)
    rw [h0, Nat.zero_add] at r'
    show n - sq_o R 0 n = sq_p L 1 0 n
    omega
  · have b' : sq_p L 1 0 n = sq_p L 2 0 n + sq_p L 2 1 n := sq_p2 L (show 1 < 3 by omega) 0 n
    have c' : sq_p L 1 1 n = sq_p L 2 2 n + sq_p L 2 3 n := sq_p2 L (show 1 < 3 by omega) 1 n
    have r' : sq_o R 1 (0 + sq_p L 1 0 n) = 0 + sq_p L 2 1 n := sq_rowones (show 1 < 3 by omega) H 0 n (Nat.le_refl n)
    have t' : sq_o R 1 (sq_p L 1 0 n + sq_p L 1 1 n) = sq_o R 1 (sq_p L 1 0 n) + sq_p L 2 3 n := sq_rowones (show 1 < 3 by omega) H 1 n (Nat.le_refl n)
    rw [Nat.zero_add] at r'
    rw [show sq_p L 1 0 n + sq_p L 1 1 n = n by omega] at t'
    show n - sq_o R 1 n = sq_p L 2 0 n + sq_p L 2 2 n
    omega
-- ---- filling the nodes of a row in an order ----
/-- where group g of row l begins, the groups in the order o -/
def sq_sg (L : Nat → Nat) (n l : Nat) (o : Nat → Nat) : Nat → Nat
  | 0 => 0
  | g + 1 => sq_sg L n l o g + sq_p L l (o g) n
theorem sq_sgst (L : Nat → Nat) (n l : Nat) : ∀ g, sq_sg L n l (fun g => g) g = sq_st L n l g := by
  intro g
  induction g with
  | zero => rfl
  | succ g ih => show sq_sg L n l (fun g => g) g + _ = sq_st L n l g + _; rw [ih]
/-- a node of places so far: what fillNode has written, up to place q; bits from M on are not looked at -/
def sq_Fil (L : Nat → Nat) (l p slot M : Nat) (R0 : Nat → Bool) (q : Nat) (R : Nat → Bool) : Prop :=
  (∀ P, P < slot → R P = R0 P) ∧ (∀ P, slot + sq_p L l p q ≤ P → P < M → R P = false) ∧
  (∀ j, j < q → L j / 2 ^ (3 - l) = p → R (slot + sq_p L l p j) = decide (L j / 2 ^ (2 - l) % 2 = 1))
theorem sq_Fil0 {L : Nat → Nat} {l p slot M : Nat} {R0 : Nat → Bool} (h : ∀ P, slot ≤ P → P < M → R0 P = false) : sq_Fil L l p slot M R0 0 R0 :=
  ⟨fun _ _ => rfl, fun P hP hM => h P (by omega) hM, fun j hj => by omega⟩
theorem sq_Filn {L : Nat → Nat} {l p slot M q : Nat} {R0 R : Nat → Bool} (h : sq_Fil L l p slot M R0 q R) (hp : ¬ L q / 2 ^ (3 - l) = p) : sq_Fil L l p slot M R0 (q + 1) R := by
  refine ⟨h.1, ?_, ?_⟩
  · rw [sq_pf hp]; exact h.2.1
  · intro j hj hjp
    by_cases e : j = q
    · subst e; exact absurd hjp hp
    · exact h.2.2 j (by omega) hjp
theorem sq_Fil1 {L : Nat → Nat} {l p slot M q : Nat} {R0 R R' : Nat → Bool} (h : sq_Fil L l p slot M R0 q R) (hp : L q / 2 ^ (3 - l) = p) (hb : L q / 2 ^ (2 - l) % 2 = 1)
    (hR : ∀ P, R' P = (R P || decide (P = slot + sq_p L l p q))) : sq_Fil L l p slot M R0 (q + 1) R' := by
  refine ⟨?_, ?_, ?_⟩
  · intro P hP
    rw [hR, decide_eq_false (by omega), Bool.or_false]
    exact h.1 P hP
  · rw [sq_pt hp]
    intro P hP hM
    rw [hR, decide_eq_false (by omega), Bool.or_false]
    exact h.2.1 P (by omega) hM
  · intro j hj hjp
    rw [hR]
    by_cases e : j = q
    · subst e
      rw [decide_eq_true rfl, Bool.or_true, decide_eq_true hb]
    · have a := sq_pmono L l p (show j + 1 ≤ q by omega)
      rw [sq_pt hjp] at a
      rw [decide_eq_false (by omega), Bool.or_false]
      exact h.2.2 j (by omega) hjp
theorem sq_Fil2 {L : Nat → Nat} {l p slot M q : Nat} {R0 R : Nat → Bool} (h : sq_Fil L l p slot M R0 q R) (hp : L q / 2 ^ (3 - l) = p) (hb : ¬ L q / 2 ^ (2 - l) % 2 = 1) (hM : slot + sq_p L l p q < M) : sq_Fil L l p slot M R0 (q + 1) R := by
  refine ⟨h.1, ?_, ?_⟩
  · rw [sq_pt hp]
    intro P hP hPM
    exact h.2.1 P (by omega) hPM
  · intro j hj hjp
    by_cases e : j = q
    · subst e
      rw [h.2.1 _ (Nat.le_refl _) hM, decide_eq_false hb]
    · exact h.2.2 j (by omega) hjp
/-- row l so far: g groups are filled -/
def sq_Grp (L : Nat → Nat) (n l : Nat) (o : Nat → Nat) (g : Nat) (R : Nat → Bool) : Prop :=
  (∀ P, 256 * l + sq_sg L n l o g ≤ P → P < 768 → R P = false) ∧
  (∀ h, h < g → ∀ j, j < n → L j / 2 ^ (3 - l) = o h → R (256 * l + sq_sg L n l o h + sq_p L l (o h) j) = decide (L j / 2 ^ (2 - l) % 2 = 1))
theorem sq_sgmono (L : Nat → Nat) (n l : Nat) (o : Nat → Nat) : ∀ {h g : Nat}, h ≤ g → sq_sg L n l o h ≤ sq_sg L n l o g := by
  intro h g hg
  induction g with
  | zero => rw [show h = 0 by omega]; exact Nat.le_refl _
  | succ g ih =>
    by_cases e : h = g + 1
    · rw [e]; exact Nat.le_refl _
    · have := ih (by omega)
      show _ ≤ sq_sg L n l o g + sq_p L l (o g) n
      omega
theorem sq_Grps {L : Nat → Nat} {n l g : Nat} {o : Nat → Nat} {R R' : Nat → Bool} (H : sq_Grp L n l o g R) (F : sq_Fil L l (o g) (256 * l + sq_sg L n l o g) 768 R n R') : sq_Grp L n l o (g + 1) R' := by
  refine ⟨?_, ?_⟩
  · intro P hP hM
    exact F.2.1 P (by
      have : 256 * l + (sq_sg L n l o g + sq_p L l (o g) n) ≤ P := hP
      omega) hM
  · intro h hh j hj hp
    by_cases e : h = g
    · subst e
      exact F.2.2 j hj hp
    · rw [F.1]
      · exact H.2 h (by omega) j hj hp
      · have a := sq_sgmono L n l o (show h + 1 ≤ g by omega)
        have a' : sq_sg L n l o h + sq_p L l (o h) n ≤ sq_sg L n l o g := a
        have b := sq_pmono L l (o h) (show j + 1 ≤ n by omega)
        rw [sq_pt hp] at b
        omega
/-- rows below l aren't touched by what is written into row l -/
def sq_Up (R0 R : Nat → Bool) (l : Nat) : Prop := ∀ P, P < 256 * l → R P = R0 P
theorem sq_RowUp {L : Nat → Nat} {n l m : Nat} {st : Nat → Nat} {R0 R : Nat → Bool} (U : sq_Up R0 R m) (hl : l < m) (hst : ∀ q, q < n → st (L q / 2 ^ (3 - l)) + sq_p L l (L q / 2 ^ (3 - l)) q < 256) (H : sq_Row L n l st R0) : sq_Row L n l st R := by
  intro q hq
  have := hst q hq
  rw [U _ (by omega)]
  exact H q hq
