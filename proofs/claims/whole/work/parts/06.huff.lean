-- Part 06: Huffman's joins: the lightest groups, the cost, its bound.
/-- the first of the lightest groups below i, without e -/
def sq_li (w : Nat → Nat) (e : Option Nat) : Nat → Option Nat
  | 0 => none
  | g + 1 => match sq_li w e g with
    | none => if e = some g ∨ w g = 0 then none else some g
    | some m => if e = some g ∨ w g = 0 then some m else if w g < w m then some g else some m
def sq_LI (w : Nat → Nat) (e : Option Nat) (i : Nat) : Option Nat → Prop
  | none => ∀ g, g < i → e = some g ∨ w g = 0
  | some m => m < i ∧ e ≠ some m ∧ 0 < w m ∧ ∀ g, g < i → e ≠ some g → 0 < w g → w m ≤ w g
theorem sq_lis (w : Nat → Nat) (e : Option Nat) : ∀ i, sq_LI w e i (sq_li w e i) := by
  intro i
  induction i with
  | zero => intro g hg; omega
  | succ i ih =>
    unfold sq_li
    cases h : sq_li w e i with
    | none =>
      rw [h] at ih
      have ih' : ∀ g, g < i → e = some g ∨ w g = 0 := ih
      by_cases c : e = some i ∨ w i = 0
      · show sq_LI w e (i + 1) (if e = some i ∨ w i = 0 then none else some i)
        rw [if_pos c]
        intro g hg
        by_cases eg : g = i
        · subst eg; exact c
        · exact ih' g (by omega)
      · show sq_LI w e (i + 1) (if e = some i ∨ w i = 0 then none else some i)
        rw [if_neg c]
        refine ⟨by omega, fun z => c (Or.inl z), Nat.pos_of_ne_zero (fun z => c (Or.inr z)), ?_⟩
        intro g hg he hw
        by_cases eg : g = i
        · subst eg; exact Nat.le_refl _
        · rcases ih' g (by omega) with z | z
          · exact absurd z he
          · omega
    | some m =>
      rw [h] at ih
      have ih' : m < i ∧ e ≠ some m ∧ 0 < w m ∧ ∀ g, g < i → e ≠ some g → 0 < w g → w m ≤ w g := ih
      obtain ⟨a1, a2, a3, a4⟩ := ih'
      show sq_LI w e (i + 1) (if e = some i ∨ w i = 0 then some m else if w i < w m then some i else some m)
      by_cases c : e = some i ∨ w i = 0
      · rw [if_pos c]
        refine ⟨by omega, a2, a3, ?_⟩
        intro g hg he hw
        by_cases eg : g = i
        · subst eg
          rcases c with c | c
          · exact absurd c he
          · omega
        · exact a4 g (by omega) he hw
      · rw [if_neg c]
        by_cases d : w i < w m
        · rw [if_pos d]
          refine ⟨by omega, fun z => c (Or.inl z), Nat.pos_of_ne_zero (fun z => c (Or.inr z)), ?_⟩
          intro g hg he hw
          by_cases eg : g = i
          · subst eg; exact Nat.le_refl _
          · have := a4 g (by omega) he hw
            omega
        · rw [if_neg d]
          refine ⟨by omega, a2, a3, ?_⟩
          intro g hg he hw
          by_cases eg : g = i
          · subst eg; omega
          · exact a4 g (by omega) he hw
def sq_fi (w : Nat → Nat) : Option Nat := sq_li w none 8
def sq_se (w : Nat → Nat) : Option Nat := sq_li w (sq_fi w) 8
theorem sq_se_some {w : Nat → Nat} {s : Nat} (h : sq_se w = some s) : ∃ f, sq_fi w = some f ∧ f < 8 ∧ s < 8 ∧ f ≠ s ∧ 0 < w f ∧ 0 < w s ∧ (∀ g, g < 8 → 0 < w g → w f ≤ w g) ∧ (∀ g, g < 8 → g ≠ f → 0 < w g → w s ≤ w g) := by
  have a := sq_lis w none 8
  have b := sq_lis w (sq_fi w) 8
  have h' : sq_li w (sq_fi w) 8 = some s := h
  rw [h'] at b
  have b' : s < 8 ∧ sq_fi w ≠ some s ∧ 0 < w s ∧ ∀ g, g < 8 → sq_fi w ≠ some g → 0 < w g → w s ≤ w g := b
  obtain ⟨b1, b2, b3, b4⟩ := b'
  cases e : sq_fi w with
  | none =>
    have e' : sq_li w none 8 = none := e
    rw [e'] at a
    have a' : ∀ g, g < 8 → none = some g ∨ w g = 0 := a
    rcases a' s b1 with z | z
    · exact absurd z (by simp)
    · omega
  | some f =>
    have e' : sq_li w none 8 = some f := e
    rw [e'] at a
    have a' : f < 8 ∧ none ≠ some f ∧ 0 < w f ∧ ∀ g, g < 8 → none ≠ some g → 0 < w g → w f ≤ w g := a
    obtain ⟨a1, _, a3, a4⟩ := a'
    rw [e] at b2 b4
    refine ⟨f, rfl, a1, b1, fun z => b2 (by rw [z]), a3, b3, fun g hg hw => a4 g hg (by simp) hw, fun g hg hn hw => b4 g hg (fun z => hn (Option.some.inj z).symm) hw⟩
theorem sq_se_none {w : Nat → Nat} (h : sq_se w = none) : (∀ g, g < 8 → w g = 0) ∨ ∃ f, f < 8 ∧ sq_fi w = some f ∧ 0 < w f ∧ ∀ g, g < 8 → g ≠ f → w g = 0 := by
  have a := sq_lis w none 8
  have b := sq_lis w (sq_fi w) 8
  have h' : sq_li w (sq_fi w) 8 = none := h
  rw [h'] at b
  have b' : ∀ g, g < 8 → sq_fi w = some g ∨ w g = 0 := b
  cases e : sq_fi w with
  | none =>
    left
    intro g hg
    rcases b' g hg with z | z
    · rw [e] at z; exact absurd z (by simp)
    · exact z
  | some f =>
    right
    have e' : sq_li w none 8 = some f := e
    rw [e'] at a
    have a' : f < 8 ∧ none ≠ some f ∧ 0 < w f ∧ ∀ g, g < 8 → none ≠ some g → 0 < w g → w f ≤ w g := a
    refine ⟨f, a'.1, rfl, a'.2.2.1, ?_⟩
    intro g hg hn
    rcases b' g hg with z | z
    · rw [e] at z; exact absurd (Option.some.inj z).symm hn
    · exact z
def sq_lv (w : Nat → Nat) : Nat := sq_c (fun g => decide (0 < w g)) 8
def sq_hs (w : Nat → Nat) (g : (Nat → Nat) → Nat) : Option Nat → Option Nat → Nat
  | some f, some s => w f + w s + g (sq_jw w f s)
  | _, _ => 0
/-- the joins' sum, k joins at most -/
def sq_hf : Nat → (Nat → Nat) → Nat
  | 0, _ => 0
  | k + 1, w => sq_hs w (sq_hf k) (sq_fi w) (sq_se w)
theorem sq_hs_none (w : Nat → Nat) (g : (Nat → Nat) → Nat) (a : Option Nat) : sq_hs w g a none = 0 := by cases a <;> rfl
theorem sq_hs_some (w : Nat → Nat) (g : (Nat → Nat) → Nat) (f s : Nat) : sq_hs w g (some f) (some s) = w f + w s + g (sq_jw w f s) := rfl
theorem sq_hfs (k : Nat) (w : Nat → Nat) : sq_hf (k + 1) w = sq_hs w (sq_hf k) (sq_fi w) (sq_se w) := rfl
theorem sq_hf_none {k : Nat} {w : Nat → Nat} (h : sq_se w = none) : sq_hf k w = 0 := by
  cases k with
  | zero => rfl
  | succ k => rw [sq_hfs, h, sq_hs_none]
theorem sq_hf_some {k : Nat} {w : Nat → Nat} {f s : Nat} (hf : sq_fi w = some f) (hs : sq_se w = some s) : sq_hf (k + 1) w = w f + w s + sq_hf k (sq_jw w f s) := by
  rw [sq_hfs, hf, hs, sq_hs_some]
theorem sq_cex {p : Nat → Bool} : ∀ i, 0 < sq_c p i → ∃ a, a < i ∧ p a = true := by
  intro i
  induction i with
  | zero => intro h; exact absurd h (by simp [sq_c])
  | succ i ih =>
    intro h
    cases e : p i with
    | true => exact ⟨i, by omega, e⟩
    | false =>
      rw [sq_cf e] at h
      obtain ⟨a, h1, h2⟩ := ih h
      exact ⟨a, by omega, h2⟩
def sq_rm (U : Nat → Bool) (a : Nat) : Nat → Bool := fun g => if g = a then false else U g
theorem sq_rmle (U : Nat → Bool) (a : Nat) : ∀ i, i ≤ a → sq_c (sq_rm U a) i = sq_c U i := fun i hi => sq_ccg i (fun j hj => if_neg (by omega))
theorem sq_crm {U : Nat → Bool} {a : Nat} (ha : U a = true) : ∀ i, a < i → sq_c U i = sq_c (sq_rm U a) i + 1 := by
  intro i
  induction i with
  | zero => intro h; omega
  | succ i ih =>
    intro h
    by_cases e : a = i
    · subst e
      rw [sq_ct ha, sq_cf (show sq_rm U a a = false from if_pos rfl), sq_rmle U a a (Nat.le_refl _)]
    · have := ih (by omega)
      rw [sq_cs, sq_cs, show sq_rm U a i = U i from if_neg (by omega), this]
      omega
def sq_us (w : Nat → Nat) (U : Nat → Bool) (i : Nat) : Nat := sq_s (fun g => if U g = true then w g else 0) i
theorem sq_usrm {w : Nat → Nat} {U : Nat → Bool} {a : Nat} (ha : U a = true) : ∀ i, a < i → sq_us w U i = sq_us w (sq_rm U a) i + w a := by
  intro i
  induction i with
  | zero => intro h; omega
  | succ i ih =>
    intro h
    unfold sq_us at ih ⊢
    rw [sq_ss, sq_ss]
    by_cases e : a = i
    · subst e
      rw [if_pos ha, show sq_rm U a a = false from if_pos rfl]
      have : sq_s (fun g => if sq_rm U a g = true then w g else 0) a = sq_s (fun g => if U g = true then w g else 0) a := sq_scg a (fun j hj => by
        show (if sq_rm U a j = true then w j else 0) = _
        rw [show sq_rm U a j = U j from if_neg (by omega)])
      rw [this]
      simp
    · have := ih (by omega)
      rw [this, show sq_rm U a i = U i from if_neg (by omega)]
      omega
theorem sq_ussm {w : Nat → Nat} {U : Nat → Bool} (i : Nat) : sq_us w U i ≤ sq_s w i := sq_sle i (fun j _ => by
  show (if U j = true then w j else 0) ≤ w j
  split <;> omega)
theorem sq_jws {w : Nat → Nat} {f s : Nat} (hf : f < 8) (hs : s < 8) (ne : f ≠ s) : sq_s (sq_jw w f s) 8 = sq_s w 8 := by
  have a : sq_us w (fun _ => true) 8 = sq_us w (sq_rm (fun _ => true) f) 8 + w f := sq_usrm rfl 8 hf
  have b : sq_us w (sq_rm (fun _ => true) f) 8 = sq_us w (sq_rm (sq_rm (fun _ => true) f) s) 8 + w s := sq_usrm (show (if s = f then false else true) = true from if_neg (Ne.symm ne)) 8 hs
  have a' : sq_us (sq_jw w f s) (fun _ => true) 8 = sq_us (sq_jw w f s) (sq_rm (fun _ => true) f) 8 + sq_jw w f s f := sq_usrm rfl 8 hf
  have b' : sq_us (sq_jw w f s) (sq_rm (fun _ => true) f) 8 = sq_us (sq_jw w f s) (sq_rm (sq_rm (fun _ => true) f) s) 8 + sq_jw w f s s := sq_usrm (show (if s = f then false else true) = true from if_neg (Ne.symm ne)) 8 hs
  have c : sq_us (sq_jw w f s) (sq_rm (sq_rm (fun _ => true) f) s) 8 = sq_us w (sq_rm (sq_rm (fun _ => true) f) s) 8 := sq_scg 8 (fun j _ => by
    show (if sq_rm (sq_rm (fun _ => true) f) s j = true then sq_jw w f s j else 0) = (if sq_rm (sq_rm (fun _ => true) f) s j = true then w j else 0)
    by_cases e1 : j = s
    · rw [show sq_rm (sq_rm (fun _ => true) f) s j = false from if_pos e1]; rfl
    · by_cases e2 : j = f
      · have : sq_rm (sq_rm (fun _ => true) f) s j = false := (if_neg e1).trans (if_pos e2)
        rw [this]; rfl
      · have : sq_jw w f s j = w j := (if_neg e1).trans (if_neg e2)
        rw [this])
  have d : sq_jw w f s f = w f + w s := (if_neg ne).trans (if_pos rfl)
  have e : sq_jw w f s s = 0 := if_pos rfl
  have t1 : sq_us w (fun _ => true) 8 = sq_s w 8 := sq_scg 8 (fun j _ => if_pos rfl)
  have t2 : sq_us (sq_jw w f s) (fun _ => true) 8 = sq_s (sq_jw w f s) 8 := sq_scg 8 (fun j _ => if_pos rfl)
  omega
theorem sq_jlv {w : Nat → Nat} {f s : Nat} (hf : f < 8) (hs : s < 8) (ne : f ≠ s) (lf : 0 < w f) (ls : 0 < w s) : sq_lv w = sq_lv (sq_jw w f s) + 1 := by
  have a : sq_lv w = sq_c (sq_rm (fun g => decide (0 < w g)) s) 8 + 1 := sq_crm (decide_eq_true ls) 8 hs
  have b : sq_lv (sq_jw w f s) = sq_c (sq_rm (fun g => decide (0 < w g)) s) 8 := sq_ccg 8 (fun j _ => by
    show decide (0 < sq_jw w f s j) = (if j = s then false else decide (0 < w j))
    by_cases e1 : j = s
    · rw [if_pos e1, show sq_jw w f s j = 0 from if_pos e1]; rfl
    · rw [if_neg e1]
      by_cases e2 : j = f
      · rw [show sq_jw w f s j = w f + w s from (if_neg e1).trans (if_pos e2), e2, decide_eq_true lf, decide_eq_true (by omega)]
      · rw [show sq_jw w f s j = w j from (if_neg e1).trans (if_neg e2)])
  omega
theorem sq_lv2 {w : Nat → Nat} {f s : Nat} (hf : f < 8) (hs : s < 8) (ne : f ≠ s) (lf : 0 < w f) (ls : 0 < w s) : 2 ≤ sq_lv w := by
  have a : sq_lv w = sq_c (sq_rm (fun g => decide (0 < w g)) s) 8 + 1 := sq_crm (decide_eq_true ls) 8 hs
  have b : sq_c (sq_rm (fun g => decide (0 < w g)) s) 8 = sq_c (sq_rm (sq_rm (fun g => decide (0 < w g)) s) f) 8 + 1 := sq_crm (show (if f = s then false else decide (0 < w f)) = true from (if_neg ne).trans (decide_eq_true lf)) 8 hf
  omega
def sq_gk (k : Nat) : Nat := if 5 ≤ k then 2 * k - 8 else if 3 ≤ k then 2 * k - 4 else 2 * k - 2
def sq_ck (k : Nat) : Nat := if 5 ≤ k then 1 else if 3 ≤ k then 2 else 3
def sq_IV (w : Nat → Nat) (c n : Nat) : Prop :=
  sq_s w 8 = n ∧ ∃ U : Nat → Bool, (∀ g, g < 8 → U g = true → 0 < w g) ∧ sq_gk (sq_lv w) ≤ sq_c U 8 ∧ c + sq_us w U 8 ≤ sq_ck (sq_lv w) * n
theorem sq_kt8 : ∀ k, k < 9 → 2 ≤ k → 2 ≤ sq_gk k ∧ (sq_ck (k - 1) = sq_ck k ∧ sq_gk (k - 1) + 2 = sq_gk k ∨ sq_ck (k - 1) = sq_ck k + 1 ∧ sq_gk (k - 1) ≤ k - 1) := by decide +kernel
theorem sq_kt9 : ∀ k, k < 9 → sq_gk k ≤ k ∧ sq_ck k ≤ 3 ∧ 1 ≤ sq_ck k := by decide +kernel
theorem sq_IV0 {w : Nat → Nat} {n : Nat} (h : sq_s w 8 = n) : sq_IV w 0 n := by
  have hk := sq_kt9 (sq_lv w) (by have := sq_cle (fun g => decide (0 < w g)) 8; show sq_c _ 8 < 9; omega)
  refine ⟨h, fun g => decide (0 < w g), fun g _ hg => of_decide_eq_true hg, hk.1, ?_⟩
  have a := sq_ussm (w := w) (U := fun g => decide (0 < w g)) 8
  have b : 1 * n ≤ sq_ck (sq_lv w) * n := Nat.mul_le_mul_right n hk.2.2
  omega
theorem sq_IVs {w : Nat → Nat} {c n f s : Nat} (H : sq_IV w c n) (hf : f < 8) (hs : s < 8) (ne : f ≠ s) (lf : 0 < w f) (ls : 0 < w s)
    (m1 : ∀ g, g < 8 → 0 < w g → w f ≤ w g) (m2 : ∀ g, g < 8 → g ≠ f → 0 < w g → w s ≤ w g) : sq_IV (sq_jw w f s) (c + (w f + w s)) n := by
  obtain ⟨h1, U, u1, u2, u3⟩ := H
  have k1 := sq_jlv hf hs ne lf ls
  have k2 := sq_lv2 hf hs ne lf ls
  have k8 : sq_lv w ≤ 8 := sq_cle _ 8
  have hn := sq_jws (w := w) hf hs ne
  have t := sq_kt8 (sq_lv w) (by omega) k2
  -- the first of the two that pay
  have A : ∃ a, a < 8 ∧ U a = true ∧ w f ≤ w a ∧ sq_rm U a f = false := by
    cases e : U f with
    | true => exact ⟨f, hf, e, Nat.le_refl _, if_pos rfl⟩
    | false =>
      obtain ⟨a, a1, a2⟩ := sq_cex (p := U) 8 (by omega)
      refine ⟨a, a1, a2, m1 a a1 (u1 a a1 a2), ?_⟩
      show (if f = a then false else U f) = false
      rw [e]; split <;> rfl
  obtain ⟨a, a1, a2, a3, a4⟩ := A
  have ca := sq_crm a2 8 a1
  have wa := sq_usrm (w := w) a2 8 a1
  have B : ∃ b, b < 8 ∧ sq_rm U a b = true ∧ w s ≤ w b ∧ sq_rm (sq_rm U a) b s = false := by
    cases e : sq_rm U a s with
    | true => exact ⟨s, hs, e, Nat.le_refl _, if_pos rfl⟩
    | false =>
      obtain ⟨b, b1, b2⟩ := sq_cex (p := sq_rm U a) 8 (by omega)
      have bf : b ≠ f := fun z => by rw [z, a4] at b2; exact absurd b2 (by decide)
      have bu : U b = true := by
        have b3 : (if b = a then false else U b) = true := b2
        by_cases z : b = a
        · rw [if_pos z] at b3; exact absurd b3 (by decide)
        · rw [if_neg z] at b3; exact b3
      refine ⟨b, b1, b2, m2 b b1 bf (u1 b b1 bu), ?_⟩
      show (if s = b then false else sq_rm U a s) = false
      rw [e]; split <;> rfl
  obtain ⟨b, b1, b2, b3, b4⟩ := B
  have cb := sq_crm b2 8 b1
  have wb := sq_usrm (w := w) b2 8 b1
  have v1 : ∀ g, sq_rm (sq_rm U a) b g = true → g ≠ f ∧ g ≠ s ∧ U g = true := by
    intro g hg
    have g1 : (if g = b then false else sq_rm U a g) = true := hg
    by_cases z : g = b
    · rw [if_pos z] at g1; exact absurd g1 (by decide)
    · rw [if_neg z] at g1
      have g2 : (if g = a then false else U g) = true := g1
      by_cases y : g = a
      · rw [if_pos y] at g2; exact absurd g2 (by decide)
      · rw [if_neg y] at g2
        refine ⟨fun x => ?_, fun x => ?_, g2⟩
        · rw [x, a4] at g1; exact absurd g1 (by decide)
        · rw [x, b4] at hg; exact absurd hg (by decide)
  have jg : ∀ g, g ≠ f → g ≠ s → sq_jw w f s g = w g := fun g x y => (if_neg y).trans (if_neg x)
  have wj : sq_us (sq_jw w f s) (sq_rm (sq_rm U a) b) 8 = sq_us w (sq_rm (sq_rm U a) b) 8 := sq_scg 8 (fun j _ => by
    show (if sq_rm (sq_rm U a) b j = true then sq_jw w f s j else 0) = (if sq_rm (sq_rm U a) b j = true then w j else 0)
    cases e : sq_rm (sq_rm U a) b j with
    | false => rfl
    | true =>
      obtain ⟨x, y, _⟩ := v1 j e
      rw [jg j x y])
  refine ⟨by omega, ?_⟩
  have kk : sq_lv (sq_jw w f s) = sq_lv w - 1 := by omega
  rcases t.2 with ⟨t1, t2⟩ | ⟨t1, t2⟩
  · refine ⟨sq_rm (sq_rm U a) b, ?_, by rw [kk]; omega, by rw [kk, t1]; omega⟩
    intro g hg hu
    obtain ⟨x, y, z⟩ := v1 g hu
    rw [jg g x y]
    exact u1 g hg z
  · refine ⟨fun g => decide (0 < sq_jw w f s g), fun g _ hg => of_decide_eq_true hg, ?_, ?_⟩
    · have : sq_c (fun g => decide (0 < sq_jw w f s g)) 8 = sq_lv (sq_jw w f s) := rfl
      rw [this, kk]; exact t2
    · have x := sq_ussm (w := sq_jw w f s) (U := fun g => decide (0 < sq_jw w f s g)) 8
      rw [kk, t1, Nat.add_mul, Nat.one_mul]
      omega
theorem sq_hfle : ∀ (k : Nat) (w : Nat → Nat) (c n : Nat), sq_IV w c n → c + sq_hf k w ≤ 3 * n := by
  intro k
  induction k with
  | zero =>
    intro w c n H
    obtain ⟨_, U, _, _, u3⟩ := H
    have hk := sq_kt9 (sq_lv w) (by have := sq_cle (fun g => decide (0 < w g)) 8; show sq_c _ 8 < 9; omega)
    have b : sq_ck (sq_lv w) * n ≤ 3 * n := Nat.mul_le_mul_right n hk.2.1
    show c + 0 ≤ 3 * n
    omega
  | succ k ih =>
    intro w c n H
    cases e : sq_se w with
    | none =>
      rw [sq_hf_none e]
      obtain ⟨_, U, _, _, u3⟩ := H
      have hk := sq_kt9 (sq_lv w) (by have := sq_cle (fun g => decide (0 < w g)) 8; show sq_c _ 8 < 9; omega)
      have b : sq_ck (sq_lv w) * n ≤ 3 * n := Nat.mul_le_mul_right n hk.2.1
      omega
    | some s =>
      obtain ⟨f, e1, hf, hs, ne, lf, ls, m1, m2⟩ := sq_se_some e
      rw [sq_hf_some e1 e]
      have := ih _ _ _ (sq_IVs H hf hs ne lf ls m1 m2)
      omega
theorem sq_hf3 {w : Nat → Nat} {n : Nat} (h : sq_s w 8 = n) (k : Nat) : sq_hf k w ≤ 3 * n := by
  have := sq_hfle k w 0 n (sq_IV0 h)
  omega
