-- Part 09: further pure rows: zeros, the sparse engine's packing, runs, select, below, most.
theorem sq_cuni {p : Nat → Bool} {a b : Nat} (ha : p a = true) (hb : p b = true) (h : sq_c p a = sq_c p b) : a = b := by
  rcases Nat.lt_trichotomy a b with z | z | z
  · have := sq_clt z ha; omega
  · exact z
  · have := sq_clt z hb; omega
/-- zeros before p -/
def sq_z (R : Nat → Bool) (p : Nat) : Nat := sq_c (fun q => !R q) p
theorem sq_zt {R : Nat → Bool} {p : Nat} (h : R p = false) : sq_z R (p + 1) = sq_z R p + 1 := sq_ct (by show (!R p) = true; rw [h]; rfl)
theorem sq_zf {R : Nat → Bool} {p : Nat} (h : R p = true) : sq_z R (p + 1) = sq_z R p := sq_cf (by show (!R p) = false; rw [h]; rfl)
theorem sq_zw (a : Nat → Int64) (k : Nat) : sq_z (sq_B a) (64 * k + 64) = sq_z (sq_B a) (64 * k) + (64 - sq_pc (a k)) := by
  have h1 := sq_cnot (sq_B a) (64 * k + 64)
  have h2 := sq_cnot (sq_B a) (64 * k)
  have h3 := sq_pcw a 0 k
  have e : (fun t => sq_B a (64 * 0 + t)) = sq_B a := by funext t; rw [Nat.mul_zero, Nat.zero_add]
  rw [e, Nat.zero_add] at h3
  have h4 := sq_pcle (a k)
  have h5 : sq_z (sq_B a) (64 * k + 64) = sq_c (fun q => !sq_B a q) (64 * k + 64) := rfl
  have h6 : sq_z (sq_B a) (64 * k) = sq_c (fun q => !sq_B a q) (64 * k) := rfl
  omega
/-- zero number k of the sparse row is where the bucket k ends -/
theorem sq_zk {L : Nat → Nat} {n : Nat} {R : Nat → Bool} (hn : n ≤ 200) (H : sq_Hi L n R) {k P : Nat} (hk : k < 256) (h1 : R P = false) (h2 : sq_z R P = k) : P = k + sq_k L n (8 * k + 8) := by
  have a := sq_zero hn H hk
  have b := sq_zones hn H hk
  have c := sq_cnot R (k + sq_k L n (8 * k + 8))
  refine sq_cuni (p := fun q => !R q) (by show (!R P) = true; rw [h1]; rfl) (by show (!R _) = true; rw [a]; rfl) ?_
  have h2' : sq_c (fun q => !R q) P = k := h2
  omega
theorem sq_z512 {L : Nat → Nat} {n : Nat} {R : Nat → Bool} (hn : n ≤ 200) (H : sq_Hi L n R) {k : Nat} (hk : k < 256) : k < sq_z R 512 := by
  have a := sq_zero hn H hk
  have b := sq_zones hn H hk
  have c := sq_cnot R (k + sq_k L n (8 * k + 8))
  have d := sq_kle L n (8 * k + 8)
  have e := sq_clt (p := fun q => !R q) (show k + sq_k L n (8 * k + 8) < 512 by omega) (by show (!R _) = true; rw [a]; rfl)
  have e' : sq_c (fun q => !R q) (k + sq_k L n (8 * k + 8)) < sq_z R 512 := e
  omega
-- ---- packing the sparse row ----
def sq_SI (L : Nat → Nat) (n m : Nat) (R : Nat → Bool) (lo : Nat → Int64) : Prop :=
  (∀ P, P < 512 → (R P = true ↔ ∃ q, q < n ∧ 256 * L q + q < m ∧ P = (256 * L q + q) / 8 + sq_k L n (256 * L q + q))) ∧
  (∀ q, q < n → 256 * L q + q < m → sq_F 3 21 lo (sq_k L n (256 * L q + q)) = q % 8) ∧
  (∀ x, sq_k L n m ≤ x → x < 210 → sq_F 3 21 lo x = 0)
theorem sq_k0 (L : Nat → Nat) (n : Nat) : sq_k L n 0 = 0 := sq_cnone n (fun j _ => decide_eq_false (by omega))
theorem sq_SI0 {L : Nat → Nat} {n : Nat} {R : Nat → Bool} {lo : Nat → Int64} (hR : ∀ P, P < 512 → R P = false) (hl : ∀ x, x < 210 → sq_F 3 21 lo x = 0) : sq_SI L n 0 R lo :=
  ⟨fun P hP => ⟨fun h => by rw [hR P hP] at h; exact absurd h (by decide), fun ⟨q, _, h, _⟩ => by omega⟩, fun q _ h => by omega, fun x _ hx => hl x hx⟩
theorem sq_SIn {L : Nat → Nat} {n m m' : Nat} {R : Nat → Bool} {lo : Nat → Int64} (H : sq_SI L n m R lo) (hm : m ≤ m') (h : ∀ q, q < n → 256 * L q + q < m' → 256 * L q + q < m) : sq_SI L n m' R lo := by
  obtain ⟨h1, h2, h3⟩ := H
  refine ⟨fun P hP => ?_, fun q hq hqm => h2 q hq (h q hq hqm), fun x hx hx2 => h3 x (Nat.le_trans (sq_kmono L n hm) hx) hx2⟩
  rw [h1 P hP]
  exact ⟨fun ⟨q, a, b, c⟩ => ⟨q, a, by omega, c⟩, fun ⟨q, a, b, c⟩ => ⟨q, a, h q a b, c⟩⟩
theorem sq_SIs {L : Nat → Nat} {n p : Nat} {R R' : Nat → Bool} {lo lo' : Nat → Int64} (hn : n ≤ 200) (hp : p < n) (H : sq_SI L n (256 * L p + p) R lo)
    (hR : ∀ P, R' P = (R P || decide (P = (256 * L p + p) / 8 + sq_k L n (256 * L p + p))))
    (hl : ∀ x, sq_F 3 21 lo' x = if x = sq_k L n (256 * L p + p) then p % 8 else sq_F 3 21 lo x) : sq_SI L n (256 * L p + p + 1) R' lo' := by
  obtain ⟨h1, h2, h3⟩ := H
  have t := sq_kt (L := L) (q := p) n (by omega) hp
  refine ⟨fun P hP => ?_, fun q hq hqm => ?_, fun x hx hx2 => ?_⟩
  · rw [hR P, Bool.or_eq_true, h1 P hP, decide_eq_true_iff]
    constructor
    · rintro (⟨q, a, b, c⟩ | e)
      · exact ⟨q, a, by omega, c⟩
      · exact ⟨p, hp, by omega, e⟩
    · rintro ⟨q, a, b, c⟩
      by_cases e : 256 * L q + q = 256 * L p + p
      · rw [e] at c; exact Or.inr c
      · exact Or.inl ⟨q, a, by omega, c⟩
  · rw [hl]
    by_cases e : 256 * L q + q = 256 * L p + p
    · rw [e, if_pos rfl]
      omega
    · have := sq_kep (L := L) (n := n) (m := 256 * L p + p) (by omega) hq (by omega)
      rw [if_neg (by omega)]
      exact h2 q hq (by omega)
  · rw [hl, if_neg (by omega)]
    exact h3 x (by omega) hx2
theorem sq_SIe {L : Nat → Nat} {n : Nat} {R : Nat → Bool} {lo : Nat → Int64} (hL : ∀ j, L j < 8) (hn : n ≤ 200) (H : sq_SI L n 2048 R lo) :
    sq_Hi L n R ∧ ∀ q, q < n → sq_F 3 21 lo (sq_k L n (256 * L q + q)) = q % 8 := by
  obtain ⟨h1, h2, _⟩ := H
  refine ⟨fun P hP => ?_, fun q hq => h2 q hq (by have := hL q; omega)⟩
  rw [h1 P hP]
  exact ⟨fun ⟨q, a, _, c⟩ => ⟨q, a, c⟩, fun ⟨q, a, c⟩ => ⟨q, a, by have := hL q; omega, c⟩⟩
-- ---- rank, below ----
def sq_rk (L : Nat → Nat) (l i : Nat) : Nat := sq_c (fun q => decide (L q = l)) i
theorem sq_rkle (L : Nat → Nat) (l i : Nat) : sq_rk L l i ≤ i := sq_cle _ i
theorem sq_rkmono (L : Nat → Nat) (l : Nat) {i j : Nat} (h : i ≤ j) : sq_rk L l i ≤ sq_rk L l j := sq_cmono _ h
theorem sq_rkt {L : Nat → Nat} {l i : Nat} (h : L i = l) : sq_rk L l (i + 1) = sq_rk L l i + 1 := sq_ct (decide_eq_true h)
theorem sq_rkf {L : Nat → Nat} {l i : Nat} (h : ¬ L i = l) : sq_rk L l (i + 1) = sq_rk L l i := sq_cf (decide_eq_false h)
/-- places before i with a letter below m -/
def sq_cb (L : Nat → Nat) (m i : Nat) : Nat := sq_c (fun q => decide (L q < m)) i
theorem sq_cb0 (L : Nat → Nat) (i : Nat) : sq_cb L 0 i = 0 := sq_cnone i (fun j _ => decide_eq_false (by omega))
theorem sq_cbs (L : Nat → Nat) (m i : Nat) : sq_cb L (m + 1) i = sq_cb L m i + sq_rk L m i := by
  unfold sq_cb sq_rk
  rw [sq_cspl (fun q => decide (L q < m + 1)) (fun q => decide (L q < m)) i]
  congr 1
  · refine sq_ccg i (fun j _ => ?_)
    show (decide (L j < m + 1) && decide (L j < m)) = decide (L j < m)
    rw [← Bool.decide_and]
    exact decide_eq_decide.mpr (by omega)
  · refine sq_ccg i (fun j _ => ?_)
    show (decide (L j < m + 1) && !decide (L j < m)) = decide (L j = m)
    rw [← decide_not, ← Bool.decide_and]
    exact decide_eq_decide.mpr (by omega)
theorem sq_cb8 {L : Nat → Nat} (hL : ∀ j, L j < 8) (i : Nat) : sq_cb L 8 i = i := sq_call i (fun j _ => decide_eq_true (hL j))
theorem sq_cbmono (L : Nat → Nat) (m : Nat) {i j : Nat} (h : i ≤ j) : sq_cb L m i ≤ sq_cb L m j := sq_cmono _ h
theorem sq_cble (L : Nat → Nat) (m i : Nat) : sq_cb L m i ≤ i := sq_cle _ i
theorem sq_cbt {L : Nat → Nat} {m i : Nat} (h : L i < m) : sq_cb L m (i + 1) = sq_cb L m i + 1 := sq_ct (decide_eq_true h)
theorem sq_cbf {L : Nat → Nat} {m i : Nat} (h : ¬ L i < m) : sq_cb L m (i + 1) = sq_cb L m i := sq_cf (decide_eq_false h)
-- ---- most ----
def sq_mo (c : Nat → Nat) : Nat → Nat
  | 0 => 0
  | m + 1 => if c (sq_mo c m) < c m then m else sq_mo c m
def sq_mx (c : Nat → Nat) : Nat → Nat
  | 0 => 0
  | m + 1 => if sq_mx c m < c m then c m else sq_mx c m
theorem sq_mole (c : Nat → Nat) : ∀ m, sq_mo c (m + 1) ≤ m := by
  intro m
  induction m with
  | zero => show (if c 0 < c 0 then 0 else 0) ≤ 0; split <;> exact Nat.le_refl _
  | succ m ih =>
    show (if c (sq_mo c (m + 1)) < c (m + 1) then m + 1 else sq_mo c (m + 1)) ≤ m + 1
    split <;> omega
theorem sq_momx (c : Nat → Nat) : ∀ m, sq_mx c (m + 1) = c (sq_mo c (m + 1)) := by
  intro m
  induction m with
  | zero =>
    show (if 0 < c 0 then c 0 else 0) = c (if c 0 < c 0 then 0 else 0)
    rw [if_neg (Nat.lt_irrefl _)]
    split <;> omega
  | succ m ih =>
    show (if sq_mx c (m + 1) < c (m + 1) then c (m + 1) else sq_mx c (m + 1)) = c (if c (sq_mo c (m + 1)) < c (m + 1) then m + 1 else sq_mo c (m + 1))
    rw [ih]
    split <;> rfl
theorem sq_mxge (c : Nat → Nat) {l : Nat} : ∀ m, l < m → c l ≤ sq_mx c m := by
  intro m
  induction m with
  | zero => intro h; omega
  | succ m ih =>
    intro h
    show c l ≤ (if sq_mx c m < c m then c m else sq_mx c m)
    by_cases e : l = m
    · subst e; split <;> omega
    · have := ih (by omega)
      split <;> omega
-- ---- runs ----
def sq_ch (L : Nat → Nat) (i : Nat) : Bool := decide (i = 0 ∨ L i ≠ L (i - 1))
/-- the runs kept so far: r of them, up to place s -/
def sq_RI (L : Nat → Nat) (a : Nat → Int64) (r s : Nat) (st : Nat → Nat) : Prop :=
  st 0 = 0 ∧ st r = s ∧ ∀ k, k < r → st k < st (k + 1) ∧ st (k + 1) ≤ s ∧ sq_F 11 5 a k = L (st k) * 256 + (st (k + 1) - st k) ∧ ∀ q, st k ≤ q → q < st (k + 1) → L q = L (st k)
theorem sq_RIs {L : Nat → Nat} {a a' : Nat → Int64} {r s p : Nat} {st : Nat → Nat} (H : sq_RI L a r s st) (hp : s < p) (hc : ∀ q, s ≤ q → q < p → L q = L s)
    (hF : ∀ k, sq_F 11 5 a' k = if k = r then L s * 256 + (p - s) else sq_F 11 5 a k) : sq_RI L a' (r + 1) p (fun k => if k ≤ r then st k else p) := by
  obtain ⟨h0, h1, h2⟩ := H
  refine ⟨?_, ?_, ?_⟩
  · show (if 0 ≤ r then st 0 else p) = 0
    rw [if_pos (Nat.zero_le _)]; exact h0
  · show (if r + 1 ≤ r then st (r + 1) else p) = p
    rw [if_neg (by omega)]
  · intro k hk
    show (if k ≤ r then st k else p) < (if k + 1 ≤ r then st (k + 1) else p) ∧ (if k + 1 ≤ r then st (k + 1) else p) ≤ p ∧
      sq_F 11 5 a' k = L (if k ≤ r then st k else p) * 256 + ((if k + 1 ≤ r then st (k + 1) else p) - (if k ≤ r then st k else p)) ∧
      ∀ q, (if k ≤ r then st k else p) ≤ q → q < (if k + 1 ≤ r then st (k + 1) else p) → L q = L (if k ≤ r then st k else p)
    rw [if_pos (show k ≤ r by omega), hF]
    by_cases e : k = r
    · subst e
      rw [if_neg (show ¬ k + 1 ≤ k by omega), if_pos rfl, h1]
      exact ⟨hp, Nat.le_refl _, rfl, hc⟩
    · rw [if_pos (show k + 1 ≤ r by omega), if_neg e]
      obtain ⟨a1, a2, a3, a4⟩ := h2 k (by omega)
      exact ⟨a1, by omega, a3, a4⟩
theorem sq_RIr {L : Nat → Nat} {a : Nat → Int64} {r s : Nat} {st : Nat → Nat} (H : sq_RI L a r s st) : ∀ k, k ≤ r → k ≤ st k := by
  intro k
  induction k with
  | zero => intro _; exact Nat.zero_le _
  | succ k ih =>
    intro hk
    have := ih (by omega)
    have := (H.2.2 k (by omega)).1
    omega
/-- the rank within a run -/
theorem sq_rkrun {L : Nat → Nat} {s e l : Nat} (h : ∀ q, s ≤ q → q < e → L q = L s) : ∀ d, s + d ≤ e → sq_rk L l (s + d) = sq_rk L l s + (if L s = l then d else 0) := by
  intro d
  induction d with
  | zero => intro _; rw [Nat.add_zero]; split <;> rfl
  | succ d ih =>
    intro hd
    have i1 := ih (by omega)
    have i2 := h (s + d) (by omega) (by omega)
    rw [← Nat.add_assoc]
    by_cases e1 : L s = l
    · rw [if_pos e1] at i1 ⊢
      rw [sq_rkt (i2.trans e1), i1]; omega
    · rw [if_neg e1] at i1 ⊢
      rw [sq_rkf (fun z => e1 (i2.symm.trans z)), i1]
-- ---- plain: ranks by words of 21 ----
theorem sq_rk21 {L : Nat → Nat} {n l : Nat} {a : Nat → Int64} (H : ∀ p, p < n → sq_F 3 21 a p = L p) {w f : Nat} (hf : f ≤ 21) (hw : 21 * w + f ≤ n) :
    sq_rk L l (21 * w + f) = sq_rk L l (21 * w) + sq_c (fun j => decide (uN (a w) / 2 ^ (3 * j) % 2 ^ 3 = l)) f := by
  unfold sq_rk
  rw [sq_cadd]
  congr 1
  refine sq_ccg f (fun j hj => ?_)
  show decide (L (21 * w + j) = l) = decide (uN (a w) / 2 ^ (3 * j) % 2 ^ 3 = l)
  rw [← H (21 * w + j) (by omega)]
  unfold sq_F
  rw [show (21 * w + j) / 21 = w by omega, show (21 * w + j) % 21 = j by omega]
-- ---- select ----
theorem sq_selend {L : Nat → Nat} {l n k p : Nat} (h1 : sq_rk L l p ≤ k) (h2 : p ≤ n) (h3 : n < p + 1 ∨ k < sq_rk L l (p + 1)) (h4 : k < sq_rk L l n) : p < n ∧ L p = l ∧ sq_rk L l p = k := by
  have a : p ≠ n := fun e => by rw [e] at h1; omega
  have b : p < n := by omega
  have c : k < sq_rk L l (p + 1) := by omega
  by_cases e : L p = l
  · rw [sq_rkt e] at c
    exact ⟨b, e, by omega⟩
  · rw [sq_rkf e] at c
    omega
theorem sq_selbef {L : Nat → Nat} {l i p k : Nat} (h : i < p) (hk : sq_rk L l p = k) (hi : L i = l) : sq_rk L l i < k := by
  have a := sq_rkmono L l (show i + 1 ≤ p by omega)
  rw [sq_rkt hi] at a
  omega
