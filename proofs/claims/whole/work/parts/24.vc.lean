-- Part 24: different, next, runs, bits (written by wip/whole/gen24.py)
theorem sq_pc8 {s : Nat} (hs : s < 256) : sq_pc (lN s) = sq_c (fun l => s.testBit l) 8 := by
  unfold sq_pc
  rw [sq_uNl (by omega), show (64 : Nat) = 8 + 56 from rfl, sq_cadd]
  have z : sq_c (fun q => s.testBit (8 + q)) 56 = 0 := sq_cnone 56 (fun j _ => Nat.testBit_lt_two_pow (Nat.lt_of_lt_of_le hs (Nat.pow_le_pow_right (n := 2) (i := 8) (by decide) (by omega))))
  rw [z, Nat.add_zero]
theorem sq_ydiff0 {post : Int32 → Prop} {L : Nat → Nat} {n : Nat} {so : Nat → Int32} {i j : Int32} (h2 : i < 0 ∨ j < i ∨ nI n < j) (h : post (-1)) : wpY_different post (nI n, sq_l L, so) i j :=
  ⟨1, br_f (by decide) (sq_yrng0 h2 (br_t rfl (sq_yrng0 h2 (br_t rfl h))))⟩
theorem sq_ydiff {post : Int32 → Prop} {L : Nat → Nat} {n i j : Nat} {so : Nat → Int32} (hL : ∀ j, L j < 8) (hn : n ≤ 200) (hij : i ≤ j) (hj : j ≤ n) (h : post (nI (sq_c (fun l => decide (sq_rk L l i < sq_rk L l j)) 8))) : wpY_different post (nI n, sq_l L, so) (nI i) (nI j) :=
  loop_0 (σ := Int32) (fun n' l x3 => wY_different_5 post (nI i) (nI j) (nI n) (sq_l L) so n' x3 (nI l)) (fun l x3 => x3 = nI (sq_c (fun l => decide (sq_rk L l i < sq_rk L l j)) l)) 8 0 rfl
    (fun n' x3 e => br_t (nI_le (Nat.le_refl 8) (by decide)) (sq_yrng1 hn hij hj (br_f (by decide) (sq_v (P := post) e h))))
    (fun n' l x3 hl e k => by
      subst e
      have b1 := sq_rkle L l j
      have b2 := sq_rkmono L l hij
      refine br_f (nI_ge (b := 8) hl (by decide)) (sq_yrng1 hn hij hj (br_f (by decide) (sq_yoften hL (by omega) hij (by omega) (pk_le (sq_rk L l j - sq_rk L l i) 0 (fun z => ?_) (fun z => ?_)))))
      · exact nm_r (nI_1 l) (k _ (by rw [sq_cf (decide_eq_false (by omega))]))
      · exact nm_r (nI_1 _) (nm_r (nI_1 l) (k _ (by rw [sq_ct (decide_eq_true (by omega))]))))
theorem sq_find (L : Nat → Nat) (l b : Nat) : ∀ n, (∃ p, b ≤ p ∧ p < n ∧ L p = l ∧ ∀ q, b ≤ q → q < p → L q ≠ l) ∨ ∀ q, b ≤ q → q < n → L q ≠ l := by
  intro n
  induction n with
  | zero => exact Or.inr (fun q _ h => by omega)
  | succ n ih =>
    rcases ih with ⟨p, h1, h2, h3, h4⟩ | h
    · exact Or.inl ⟨p, h1, by omega, h3, h4⟩
    · by_cases z : b ≤ n ∧ L n = l
      · exact Or.inl ⟨n, z.1, by omega, z.2, h⟩
      · refine Or.inr (fun q h1 h2 => ?_)
        by_cases y : q = n
        · subst y
          exact fun w => z ⟨h1, w⟩
        · exact h q h1 (by omega)
theorem sq_ynextN {post : Int32 → Prop} {L : Nat → Nat} {n : Nat} {so : Nat → Int32} {v1 v2 : Int32} (hL : ∀ j, L j < 8) (hn : n ≤ 200) (h1 : v1 < 0 ∨ nI 8 ≤ v1) (h : post (-1)) : wpY_next post (nI n, sq_l L, so) v1 v2 :=
  loop_0 (σ := Unit) (fun n' i _ => wY_next_2 post v1 v2 (nI n) (sq_l L) so n' (nI i)) (fun _ _ => True) n () trivial
    (fun n' _ _ => br_t (nI_le (Nat.le_refl n) (by omega)) h)
    (fun n' i _ hi _ k => br_f (nI_ge hi (by omega)) (br_c (fun _ => nm_r (nI_1 i) (k () trivial)) (fun _ => ⟨vp_in_nI (by omega) (by decide), br_f (by
      rw [sq_lc L (by omega)]
      have l8 := hL i
      intro z
      rcases h1 with y | y
      · rw [← z] at y
        exact nI_pos (by omega) y
      · rw [← z] at y
        exact nI_ge l8 (by decide) y) (nm_r (nI_1 i) (k () trivial))⟩)))
theorem sq_ynextF {post : Int32 → Prop} {L : Nat → Nat} {n l b p : Nat} {so : Nat → Int32} {v2 : Int32} (hL : ∀ j, L j < 8) (hn : n ≤ 200) (hl : l < 8) (hb : ∀ q, q < 200 → (nI q < v2 ↔ q < b)) (h1 : b ≤ p) (h2 : p < n) (h3 : L p = l) (h4 : ∀ q, b ≤ q → q < p → L q ≠ l) (h : post (nI p)) : wpY_next post (nI n, sq_l L, so) (nI l) v2 :=
  loop_0 (σ := Unit) (fun n' i _ => wY_next_2 post (nI l) v2 (nI n) (sq_l L) so n' (nI i)) (fun _ _ => True) p () trivial
    (fun n' _ _ => br_f (nI_ge h2 (by omega)) (br_f (fun z => by have := (hb p (by omega)).mp z; omega) ⟨vp_in_nI (by omega) (by decide), br_t (by rw [sq_lc L (by omega), h3]) h⟩))
    (fun n' i _ hi _ k => br_f (nI_ge (by omega) (by omega)) (br_c (fun _ => nm_r (nI_1 i) (k () trivial)) (fun z => ⟨vp_in_nI (by omega) (by decide), br_f (fun w => by
      rw [sq_lc L (by omega)] at w
      have l8 := hL i
      rw [nI_eq (by omega) (by omega)] at w
      have : ¬ i < b := fun y => z ((hb i (by omega)).mpr y)
      exact h4 i (by omega) hi w) (nm_r (nI_1 i) (k () trivial))⟩)))
theorem sq_ynext0 {post : Int32 → Prop} {L : Nat → Nat} {n l b : Nat} {so : Nat → Int32} {v2 : Int32} (hL : ∀ j, L j < 8) (hn : n ≤ 200) (hl : l < 8) (hb : ∀ q, q < 200 → (nI q < v2 ↔ q < b)) (h4 : ∀ q, b ≤ q → q < n → L q ≠ l) (h : post (-1)) : wpY_next post (nI n, sq_l L, so) (nI l) v2 :=
  loop_0 (σ := Unit) (fun n' i _ => wY_next_2 post (nI l) v2 (nI n) (sq_l L) so n' (nI i)) (fun _ _ => True) n () trivial
    (fun n' _ _ => br_t (nI_le (Nat.le_refl n) (by omega)) h)
    (fun n' i _ hi _ k => br_f (nI_ge (by omega) (by omega)) (br_c (fun _ => nm_r (nI_1 i) (k () trivial)) (fun z => ⟨vp_in_nI (by omega) (by decide), br_f (fun w => by
      rw [sq_lc L (by omega)] at w
      have l8 := hL i
      rw [nI_eq (by omega) (by omega)] at w
      have : ¬ i < b := fun y => z ((hb i (by omega)).mpr y)
      exact h4 i (by omega) hi w) (nm_r (nI_1 i) (k () trivial))⟩)))
theorem sq_yruns {post : Int32 → Prop} {L : Nat → Nat} {n : Nat} {so : Nat → Int32} (hL : ∀ j, L j < 8) (hn : n ≤ 200) (h : post (nI (sq_c (sq_ch L) n))) : wpY_runs post (nI n, sq_l L, so) :=
  loop_0 (σ := Int32) (fun n' i x1 => wY_runs_4 post (nI n) (sq_l L) so n' x1 (nI i)) (fun i x1 => x1 = nI (sq_c (sq_ch L) i)) n 0 rfl
    (fun n' x1 e => br_t (nI_le (Nat.le_refl n) (by omega)) (sq_v (P := post) e h))
    (fun n' i x1 hi e k => by
      subst e
      refine br_f (nI_ge hi (by omega)) (pk_eq i 0 (fun z => ?_) (fun z => ?_))
      · exact nm_r (nI_1 _) (nm_r (nI_1 i) (k _ (congrArg nI (sq_ct (decide_eq_true (Or.inl z))).symm)))
      · have e1 : nI i - 1 = nI (i - 1) := pk_sub (b := 1) (by omega)
        have l8 := hL i
        have m8 := hL (i - 1)
        refine ⟨vp_in_nI (by omega) (by decide), by rw [e1]; exact vp_in_nI (by omega) (by decide), pk_eq (L i) (L (i - 1)) (fun w => ?_) (fun w => ?_) (sq_lc L (by omega)) (by rw [e1]; exact sq_lc L (by omega))⟩
        · exact nm_r (nI_1 i) (k _ (congrArg nI (sq_cf (decide_eq_false (fun y => y.elim z (fun y => y w)))).symm))
        · exact nm_r (nI_1 _) (nm_r (nI_1 i) (k _ (congrArg nI (sq_ct (decide_eq_true (Or.inr w))).symm))))
theorem sq_yrarest {post : Int32 → Prop} {n : Nat} {li so : Nat → Int32} {w : Nat → Nat} {e : Option Nat} (hw : ∀ g, g < 8 → so g = nI (w g) ∧ w g ≤ 200) (he : ∀ m, e = some m → m < 8) (h : post (sq_op (sq_li w e 8))) : wpY_rarest post (nI n, li, so) (sq_op e) :=
  loop_0 (σ := Int32) (fun n' g x2 => wY_rarest_4 post (sq_op e) (nI n) li so n' x2 (nI g)) (fun g x2 => x2 = sq_op (sq_li w e g)) 8 (-1) rfl
    (fun n' x2 z => br_t (nI_le (Nat.le_refl 8) (by decide)) (sq_v (P := post) z h))
    (fun n' g x2 hg z k => by
      subst z
      have cl : (nI g).toNatClampNeg = g := nI_clamp (by omega)
      obtain ⟨w1, w2⟩ := hw g hg
      have oe := sq_opeq (e := e) (g := g) (by omega) (fun m hm => by have := he m hm; omega)
      have hin : vp_in (nI g) 8 := vp_in_nI hg (by decide)
      refine br_f (nI_ge (b := 8) hg (by decide)) ⟨hin, pk_le (w g) 0 (fun y => ?_) (fun y => br_c (fun z => ?_) (fun z => ?_)) (by rw [cl]; exact w1)⟩
      · exact br_t rfl (nm_r (nI_1 g) (k _ (congrArg sq_op (sq_li_skip (Or.inr (by omega))).symm)))
      · exact br_t rfl (nm_r (nI_1 g) (k _ (congrArg sq_op (sq_li_skip (Or.inl (oe.mp z))).symm)))
      · refine br_f (by decide) ?_
        have hno : ¬ (e = some g ∨ w g = 0) := fun q => q.elim (fun q => z (oe.mpr q)) (by omega)
        cases hl : sq_li w e g with
        | none => exact br_t (by decide) (nm_r (nI_1 g) (k _ (by rw [sq_li_new hno hl]; rfl)))
        | some m =>
          have hm := sq_li8 hl
          obtain ⟨v1, v2⟩ := hw m (by omega)
          have clm : (nI m).toNatClampNeg = m := nI_clamp (by omega)
          refine br_f (nI_pos (by omega)) ⟨hin, vp_in_nI (by omega) (by decide), pk_le (w m) (w g) (fun q => ?_) (fun q => ?_) (by show so (nI m).toNatClampNeg = _; rw [clm, v1]) (by rw [cl]; exact w1)⟩
          · exact nm_r (nI_1 g) (k _ (by rw [sq_li_keep hl (by omega)]))
          · exact nm_r (nI_1 g) (k _ (by rw [sq_li_less hno hl q]; rfl)))
theorem sq_opneg {e : Option Nat} (he : ∀ m, e = some m → m < 2 ^ 31) : sq_op e < 0 ↔ e = none := by
  cases e with
  | none => exact ⟨fun _ => rfl, fun _ => by decide⟩
  | some m => exact ⟨fun z => absurd z (nI_pos (he m rfl)), fun z => absurd z (by simp)⟩
theorem sq_sw8 {w : Nat → Nat} {n : Nat} (h : sq_s w 8 = n) (hn : n ≤ 200) : ∀ g, g < 8 → w g ≤ 200 := fun g hg => by
  have := sq_s1 (f := w) (a := g) 8 hg
  omega
theorem sq_ybitsL {post : Int32 → SY → Prop} {n : Nat} {li so : Nat → Int32} {cnt : Nat → Nat} (hn : n ≤ 200) (hs : sq_s cnt 8 = n) (h0 : ∀ g, g < 8 → so g = nI (cnt g)) (h : ∀ so', post (nI (sq_hf 7 cnt)) (nI n, li, so')) : ∃ n', wY_bits_53 post (nI n) n' 0 (sq_op (sq_fi cnt)) (sq_op (sq_se cnt)) li so := by
  have fin8 : ∀ (w : Nat → Nat) m, sq_fi w = some m → m < 8 := fun w m hm => sq_li8 (w := w) (e := none) (i := 8) hm
  have sen8 : ∀ (w : Nat → Nat) m, sq_se w = some m → m < 8 := fun w m hm => sq_li8 (w := w) (e := sq_fi w) (i := 8) hm
  have ex : ∀ (n' : Nat) (w : Nat → Nat) (sum j : Nat) (so' : Nat → Int32), sum + sq_hf (7 - j) w = sq_hf 7 cnt → sq_se w = none → wY_bits_53 post (nI n) (n' + 1) (nI sum) (sq_op (sq_fi w)) (sq_op (sq_se w)) li so' := by
    intro n' w sum j so' e1 e2
    rw [sq_hf_none e2, Nat.add_zero] at e1
    exact br_t ((sq_opneg (fun m hm => by have := sen8 w m hm; omega)).mpr e2) (by rw [e1]; exact h so')
  exact loop_0 (σ := Int32 × Int32 × Int32 × (Nat → Int32)) (fun n' j x => wY_bits_53 post (nI n) n' x.1 x.2.1 x.2.2.1 li x.2.2.2)
    (fun j x => ∃ (w : Nat → Nat) (sum : Nat), (∀ g, g < 8 → x.2.2.2 g = nI (w g)) ∧ sq_s w 8 = n ∧ x.1 = nI sum ∧ x.2.1 = sq_op (sq_fi w) ∧ x.2.2.1 = sq_op (sq_se w) ∧ sum + sq_hf (7 - j) w = sq_hf 7 cnt ∧ sq_lv w + j ≤ 8) 7 (0, sq_op (sq_fi cnt), sq_op (sq_se cnt), so)
    ⟨cnt, 0, h0, hs, rfl, rfl, rfl, Nat.zero_add _, sq_cle _ 8⟩
    (fun n' x e => by
      obtain ⟨x1, x2, x3, s'⟩ := x
      obtain ⟨w, sum, e1, e2, e3, e4, e5, e6, e7⟩ := e
      have e3' : x1 = nI sum := e3
      have e4' : x2 = sq_op (sq_fi w) := e4
      have e5' : x3 = sq_op (sq_se w) := e5
      subst e3' e4' e5'
      have sn : sq_se w = none := by
        cases hse : sq_se w with
        | none => rfl
        | some s =>
          obtain ⟨f, _, f8, s8, ne, lf, ls, _, _⟩ := sq_se_some hse
          have := sq_lv2 f8 s8 ne lf ls
          omega
      exact ex n' w sum 7 s' e6 sn)
    (fun n' j x hj e k => by
      obtain ⟨x1, x2, x3, s'⟩ := x
      obtain ⟨w, sum, e1, e2, e3, e4, e5, e6, e7⟩ := e
      have e1' : ∀ g, g < 8 → s' g = nI (w g) := e1
      have e3' : x1 = nI sum := e3
      have e4' : x2 = sq_op (sq_fi w) := e4
      have e5' : x3 = sq_op (sq_se w) := e5
      subst e3' e4' e5'
      cases hse : sq_se w with
      | none =>
        have := ex n' w sum j s' e6 hse
        rw [hse] at this
        exact this
      | some s =>
        obtain ⟨f, hfi, f8, s8, ne, lf, ls, _, _⟩ := sq_se_some hse
        rw [hfi]
        have i1 : vp_in (nI f) 8 := vp_in_nI f8 (by decide)
        have i2 : vp_in (nI s) 8 := vp_in_nI s8 (by decide)
        have cf : (nI f).toNatClampNeg = f := nI_clamp (by omega)
        have cs : (nI s).toNatClampNeg = s := nI_clamp (by omega)
        have jw8 : ∀ g, g < 8 → upd (upd s' f (nI (w f + w s))) s (nI 0) g = nI (sq_jw w f s g) := by
          intro g hg
          unfold sq_jw
          by_cases z : g = s
          · rw [z, pk_us, if_pos rfl]
          · rw [pk_un z, if_neg z]
            by_cases y : g = f
            · rw [y, pk_us, if_pos rfl]
            · rw [pk_un y, if_neg y, e1' g hg]
        have js := sq_jws (w := w) f8 s8 ne
        have jl := sq_jlv f8 s8 ne lf ls
        have jb := sq_sw8 (js.trans e2) hn
        have jf : sq_jw w f s f = w f + w s := (if_neg ne).trans (if_pos rfl)
        rw [show 7 - j = (7 - (j + 1)) + 1 by omega, sq_hf_some hfi hse] at e6
        refine br_f (nI_pos (by omega)) ⟨i1, i2, i1, nm_r (e' := upd s' f (nI (w f + w s))) (by show upd s' (nI f).toNatClampNeg (s' (nI f).toNatClampNeg + s' (nI s).toNatClampNeg) = _; rw [cf, cs, e1' f f8, e1' s s8, nI_add]) ⟨i2, nm_r (e' := upd (upd s' f (nI (w f + w s))) s (nI 0)) (by show upd _ (nI s).toNatClampNeg 0 = _; rw [cs]; rfl) ⟨i1, nm_r (e' := nI (sum + (w f + w s))) (by show nI sum + upd (upd s' f (nI (w f + w s))) s (nI 0) (nI f).toNatClampNeg = _; rw [cf, jw8 f f8, jf, nI_add]) ?_⟩⟩⟩
        refine sq_yrarest (e := none) (w := sq_jw w f s) (fun g hg => ⟨jw8 g hg, jb g hg⟩) (fun m hm => absurd hm (by simp)) (sq_yrarest (e := sq_fi (sq_jw w f s)) (w := sq_jw w f s) (fun g hg => ⟨jw8 g hg, jb g hg⟩) (fun m hm => fin8 _ m hm) ?_)
        exact k (nI (sum + (w f + w s)), sq_op (sq_fi (sq_jw w f s)), sq_op (sq_se (sq_jw w f s)), upd (upd s' f (nI (w f + w s))) s (nI 0)) ⟨sq_jw w f s, sum + (w f + w s), jw8, js.trans e2, rfl, rfl, rfl, by omega, by omega⟩)
theorem sq_ybits {post : Int32 → SY → Prop} {L : Nat → Nat} {n : Nat} {so : Nat → Int32} (hL : ∀ j, L j < 8) (hn : n ≤ 200) (h : ∀ so', post (nI (sq_bits (fun l => sq_rk L l n) n)) (nI n, sq_l L, so')) : wpY_bits post (nI n, sq_l L, so) :=
  loop_0 (σ := Nat → Int32) (fun n' l s => wY_bits_2 post (nI n) n' (nI l) (sq_l L) s) (fun l s => ∀ g, g < l → s g = nI (sq_rk L g n)) 8 so (fun g hg => absurd hg (Nat.not_lt_zero g))
    (fun n' s e => by
      have hw : ∀ g, g < 8 → s g = nI (sq_rk L g n) ∧ sq_rk L g n ≤ 200 := fun g hg => ⟨e g hg, by have := sq_rkle L g n; omega⟩
      refine br_t (nI_le (Nat.le_refl 8) (by decide)) (sq_yrarest (e := none) (w := fun l => sq_rk L l n) hw (fun m hm => absurd hm (by simp)) (sq_yrarest (e := sq_fi (fun l => sq_rk L l n)) (w := fun l => sq_rk L l n) hw (fun m hm => sq_li8 (e := none) (i := 8) hm) ?_))
      have on := sq_opneg (e := sq_se (fun l => sq_rk L l n)) (fun m hm => by have := sq_li8 (w := fun l => sq_rk L l n) (e := sq_fi (fun l => sq_rk L l n)) (i := 8) hm; omega)
      unfold sq_bits at h
      by_cases z : sq_se (fun l => sq_rk L l n) = none
      · rw [if_pos z] at h
        exact br_f (fun y => Int32.lt_irrefl (Int32.lt_of_lt_of_le (on.mpr z) y)) (h s)
      · rw [if_neg z] at h
        exact br_t (Int32.not_lt.mp (fun y => z (on.mp y))) (sq_ybitsL hn (sq_cnts L hL n) e h))
    (fun n' l s hl e k => br_f (nI_ge (b := 8) hl (by decide)) (sq_yoften (i := 0) hL (by omega) (Nat.zero_le n) hn ⟨vp_in_nI hl (by decide), nm_r (e' := upd s l (nI (sq_rk L l n))) (by rw [nI_clamp (by omega)]; rfl) (nm_r (nI_1 l) (k _ (fun g hg => by
      by_cases z : g = l
      · rw [z, pk_us]
      · rw [pk_un z]; exact e g (by omega))))⟩))
section
variable {f_length f_runCount f_streamLength : Int32} {a_letters : Nat → Int32} {a_plainWords a_treeBits a_matrixBits : Nat → Int64} {a_matrixZeros : Nat → Int32} {a_letterRows a_runWords : Nat → Int64} {a_letterCounts a_groupWeights a_groupOf a_codeLengths a_codes a_codesOfLength a_lettersByCode : Nat → Int32} {a_stream : Nat → Int64} {a_sampleStarts a_sampleRanks : Nat → Int32} {a_sparseHigh a_sparseLow : Nat → Int64}
theorem sq_xdiffL {post : Int32 → Prop} {L : Nat → Nat} {n i j : Nat} (hL : ∀ j, L j < 8) (hn : n ≤ 200) (hij : i ≤ j) (hj : j ≤ n) (h : post (nI (sq_c (fun l => decide (sq_rk L l i < sq_rk L l j)) 8))) : ∃ n', wX_different_16 post (nI j) (nI n) f_runCount f_streamLength (sq_l L) a_plainWords a_treeBits a_matrixBits a_matrixZeros a_letterRows a_runWords a_letterCounts a_groupWeights a_groupOf a_codeLengths a_codes a_codesOfLength a_lettersByCode a_stream a_sampleStarts a_sampleRanks a_sparseHigh a_sparseLow n' 0 (nI i) :=
  pk_loop (σ := Int32) (fun n' p x3 => wX_different_16 post (nI j) (nI n) f_runCount f_streamLength (sq_l L) a_plainWords a_treeBits a_matrixBits a_matrixZeros a_letterRows a_runWords a_letterCounts a_groupWeights a_groupOf a_codeLengths a_codes a_codesOfLength a_lettersByCode a_stream a_sampleStarts a_sampleRanks a_sparseHigh a_sparseLow n' x3 (nI p)) (fun p x3 => i ≤ p ∧ ∃ s, x3 = nI s ∧ s < 256 ∧ ∀ l, l < 8 → s.testBit l = decide (sq_rk L l i < sq_rk L l p)) j i 0 hij
    ⟨Nat.le_refl i, 0, rfl, by decide, fun l _ => by rw [Nat.zero_testBit, decide_eq_false (by omega)]⟩
    (fun n' x3 e => by
      obtain ⟨_, s, rfl, s2, s3⟩ := e
      refine br_t (nI_le (Nat.le_refl j) (by omega)) ?_
      rw [nI_l (by omega)]
      refine sq_xones ?_
      rw [sq_pc8 s2, sq_ccg 8 s3]
      exact h)
    (fun n' p x3 hp e k => by
      obtain ⟨e0, s, rfl, s2, s3⟩ := e
      have l8 := hL p
      refine br_f (nI_ge hp (by omega)) ⟨vp_in_nI (by omega) (by decide), nm_r (e' := nI (s ||| 2 ^ L p)) (by rw [sq_lc L (by omega), sq_sh1 _ l8, sq_nor]) (nm_r (nI_1 p) (k _ ⟨by omega, s ||| 2 ^ L p, rfl, ?_, fun l hl => ?_⟩))⟩
      · exact Nat.or_lt_two_pow (n := 8) s2 (Nat.pow_lt_pow_right (by decide) l8)
      · rw [Nat.testBit_or, s3 l hl, Nat.testBit_two_pow]
        have mo := sq_rkmono L l e0
        by_cases z : L p = l
        · rw [sq_rkt z, decide_eq_true z, Bool.or_true, decide_eq_true (by omega)]
        · rw [sq_rkf z, decide_eq_false z, Bool.or_false])
theorem sq_xnextF {post : Int32 → Prop} {L : Nat → Nat} {n l b p : Nat} (hL : ∀ j, L j < 8) (hn : n ≤ 200) (hl : l < 8) (h1 : b ≤ p) (h2 : p < n) (h3 : L p = l) (h4 : ∀ q, b ≤ q → q < p → L q ≠ l) (h : post (nI p)) : ∃ n', wX_next_19 post (nI l) (nI n) f_runCount f_streamLength (sq_l L) a_plainWords a_treeBits a_matrixBits a_matrixZeros a_letterRows a_runWords a_letterCounts a_groupWeights a_groupOf a_codeLengths a_codes a_codesOfLength a_lettersByCode a_stream a_sampleStarts a_sampleRanks a_sparseHigh a_sparseLow n' (nI b) :=
  pk_loop (σ := Unit) (fun n' i _ => wX_next_19 post (nI l) (nI n) f_runCount f_streamLength (sq_l L) a_plainWords a_treeBits a_matrixBits a_matrixZeros a_letterRows a_runWords a_letterCounts a_groupWeights a_groupOf a_codeLengths a_codes a_codesOfLength a_lettersByCode a_stream a_sampleStarts a_sampleRanks a_sparseHigh a_sparseLow n' (nI i)) (fun i _ => b ≤ i) p b () h1 (Nat.le_refl b)
    (fun n' _ _ => br_f (nI_ge h2 (by omega)) ⟨vp_in_nI (by omega) (by decide), br_t (by rw [sq_lc L (by omega), h3]) h⟩)
    (fun n' i _ hi e k => br_f (nI_ge (by omega) (by omega)) ⟨vp_in_nI (by omega) (by decide), br_f (fun w => by
      rw [sq_lc L (by omega)] at w
      have l8 := hL i
      rw [nI_eq (by omega) (by omega)] at w
      exact h4 i e hi w) (nm_r (nI_1 i) (k () (by omega)))⟩)
theorem sq_xnext0 {post : Int32 → Prop} {L : Nat → Nat} {n l b : Nat} (hL : ∀ j, L j < 8) (hn : n ≤ 200) (hl : l < 8) (hb : b < 2 ^ 31) (h4 : ∀ q, b ≤ q → q < n → L q ≠ l) (h : post (-1)) : ∃ n', wX_next_19 post (nI l) (nI n) f_runCount f_streamLength (sq_l L) a_plainWords a_treeBits a_matrixBits a_matrixZeros a_letterRows a_runWords a_letterCounts a_groupWeights a_groupOf a_codeLengths a_codes a_codesOfLength a_lettersByCode a_stream a_sampleStarts a_sampleRanks a_sparseHigh a_sparseLow n' (nI b) := by
  by_cases z : b ≤ n
  · exact pk_loop (σ := Unit) (fun n' i _ => wX_next_19 post (nI l) (nI n) f_runCount f_streamLength (sq_l L) a_plainWords a_treeBits a_matrixBits a_matrixZeros a_letterRows a_runWords a_letterCounts a_groupWeights a_groupOf a_codeLengths a_codes a_codesOfLength a_lettersByCode a_stream a_sampleStarts a_sampleRanks a_sparseHigh a_sparseLow n' (nI i)) (fun i _ => b ≤ i) n b () z (Nat.le_refl b)
      (fun n' _ _ => br_t (nI_le (Nat.le_refl n) (by omega)) h)
      (fun n' i _ hi e k => br_f (nI_ge (by omega) (by omega)) ⟨vp_in_nI (by omega) (by decide), br_f (fun w => by
        rw [sq_lc L (by omega)] at w
        have l8 := hL i
        rw [nI_eq (by omega) (by omega)] at w
        exact h4 i e hi w) (nm_r (nI_1 i) (k () (by omega)))⟩)
  · exact ⟨1, br_t (nI_le (by omega) hb) h⟩
end
theorem i_vc_different {k : Nat} {u : SX} {v : SY} (I : i_Rel k u v) (hk : k + 5 ≤ 2560) (v1 : Int32) (v2 : Int32) : wpX_different (fun r => wpY_different (fun r' => r' = r ∧ i_Rel (k + 5) u v) v v1 v2) u v1 v2 := by
  have J : i_Rel (k + 5) u v := I
  obtain ⟨L, n, rc, sl, pw, tb, mb, mz, lr, rn, lc, gw, go, cl, cs, col, lbc, sm, ss, sr, hi, lo, so, hL, hn, rfl, rfl, H⟩ := I
  unfold wpX_different
  rcases sq_rngc v1 v2 hn with h2 | ⟨i, j, hij, hj, rfl, rfl⟩
  · exact sq_xrng0 h2 (br_t rfl (sq_ydiff0 h2 ⟨rfl, J⟩))
  · exact sq_xrng1 hn hij hj (br_f (by decide) (sq_xdiffL hL hn hij hj (sq_ydiff hL hn hij hj ⟨rfl, J⟩)))
theorem i_vc_next {k : Nat} {u : SX} {v : SY} (I : i_Rel k u v) (hk : k + 5 ≤ 2560) (v1 : Int32) (v2 : Int32) : wpX_next (fun r => wpY_next (fun r' => r' = r ∧ i_Rel (k + 5) u v) v v1 v2) u v1 v2 := by
  have J : i_Rel (k + 5) u v := I
  obtain ⟨L, n, rc, sl, pw, tb, mb, mz, lr, rn, lc, gw, go, cl, cs, col, lbc, sm, ss, sr, hi, lo, so, hL, hn, rfl, rfl, H⟩ := I
  unfold wpX_next
  rcases sq_ix3 v1 (n := 8) (by decide) with h1 | ⟨l, hl, rfl⟩
  · exact sq_xlet0 h1 (br_t rfl (sq_ynextN hL hn h1 ⟨rfl, J⟩))
  · refine sq_xlet1 hl (br_f (by decide) ?_)
    by_cases h2 : v2 < 0
    · have hb : ∀ q, q < 200 → (nI q < v2 ↔ q < 0) := fun q hq => ⟨fun z => absurd (Int32.lt_of_lt_of_le z (Int32.le_of_lt h2)) (nI_pos (by omega)), fun z => absurd z (Nat.not_lt_zero q)⟩
      refine br_f (fun z => Int32.lt_irrefl (Int32.lt_of_lt_of_le h2 z)) ?_
      rcases sq_find L l 0 n with ⟨p, y1, y2, y3, y4⟩ | y
      · exact sq_xnextF hL hn hl y1 y2 y3 y4 (sq_ynextF hL hn hl hb y1 y2 y3 y4 ⟨rfl, J⟩)
      · exact sq_xnext0 hL hn hl (by decide) y (sq_ynext0 hL hn hl hb y ⟨rfl, J⟩)
    · obtain ⟨b, hb0, rfl⟩ := nI_of h2
      have hb : ∀ q, q < 200 → (nI q < nI b ↔ q < b) := fun q hq => nI_ltI (by omega) hb0
      refine br_t (nI_pos' hb0) ?_
      rcases sq_find L l b n with ⟨p, y1, y2, y3, y4⟩ | y
      · exact sq_xnextF hL hn hl y1 y2 y3 y4 (sq_ynextF hL hn hl hb y1 y2 y3 y4 ⟨rfl, J⟩)
      · exact sq_xnext0 hL hn hl hb0 y (sq_ynext0 hL hn hl hb y ⟨rfl, J⟩)
theorem i_vc_runs {k : Nat} {u : SX} {v : SY} (I : i_Rel k u v) (hk : k + 5 ≤ 2560) : wpX_runs (fun r => wpY_runs (fun r' => r' = r ∧ i_Rel (k + 5) u v) v) u := by
  have J : i_Rel (k + 5) u v := I
  obtain ⟨L, n, rc, sl, pw, tb, mb, mz, lr, rn, lc, gw, go, cl, cs, col, lbc, sm, ss, sr, hi, lo, so, hL, hn, rfl, rfl, H⟩ := I
  unfold wpX_runs
  obtain ⟨r, st, e1, e2, _⟩ := H.2.2.2.2.1
  exact sq_yruns hL hn ⟨by rw [e1, e2], J⟩
theorem i_vc_bits {k : Nat} {u : SX} {v : SY} (I : i_Rel k u v) (hk : k + 5 ≤ 2560) : wpX_bits (fun r => wpY_bits (fun r' v' => r' = r ∧ i_Rel (k + 5) u v') v) u := by
  obtain ⟨L, n, rc, sl, pw, tb, mb, mz, lr, rn, lc, gw, go, cl, cs, col, lbc, sm, ss, sr, hi, lo, so, hL, hn, rfl, rfl, H⟩ := I
  obtain ⟨len, C⟩ := H.2.2.2.2.2.1
  exact sq_ybits hL hn (fun so' => ⟨by rw [C.2.2.2.2.2.2.1, C.2.2.2.2.2.2.2], L, n, rc, sl, pw, tb, mb, mz, lr, rn, lc, gw, go, cl, cs, col, lbc, sm, ss, sr, hi, lo, so', hL, hn, rfl, rfl, H⟩)
