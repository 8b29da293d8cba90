-- Part 18: the code: counts, joins, words, stream (written by wip/whole/gen18.py)
def sq_op : Option Nat → Int32
  | none => -1
  | some g => nI g
theorem sq_opeq {e : Option Nat} {g : Nat} (hg : g < 2 ^ 31) (he : ∀ m, e = some m → m < 2 ^ 31) : nI g = sq_op e ↔ e = some g := by
  cases e with
  | none => exact ⟨fun z => absurd z (sq_m1ne hg), fun z => absurd z (by simp)⟩
  | some m =>
    show nI g = nI m ↔ some m = some g
    rw [nI_eq hg (he m rfl)]
    exact ⟨fun z => by rw [z], fun z => (Option.some.inj z).symm⟩
theorem sq_li_skip {w : Nat → Nat} {e : Option Nat} {g : Nat} (h : e = some g ∨ w g = 0) : sq_li w e (g + 1) = sq_li w e g := by
  rw [sq_li]
  cases sq_li w e g with
  | none => exact if_pos h
  | some m => exact if_pos h
theorem sq_li_new {w : Nat → Nat} {e : Option Nat} {g : Nat} (h : ¬ (e = some g ∨ w g = 0)) (hn : sq_li w e g = none) : sq_li w e (g + 1) = some g := by
  rw [sq_li, hn]
  exact if_neg h
theorem sq_li_keep {w : Nat → Nat} {e : Option Nat} {g m : Nat} (hn : sq_li w e g = some m) (hl : ¬ w g < w m) : sq_li w e (g + 1) = some m := by
  rw [sq_li, hn]
  show (if e = some g ∨ w g = 0 then some m else if w g < w m then some g else some m) = some m
  rw [if_neg hl]
  split <;> rfl
theorem sq_li_less {w : Nat → Nat} {e : Option Nat} {g m : Nat} (h : ¬ (e = some g ∨ w g = 0)) (hn : sq_li w e g = some m) (hl : w g < w m) : sq_li w e (g + 1) = some g := by
  rw [sq_li, hn]
  show (if e = some g ∨ w g = 0 then some m else if w g < w m then some g else some m) = some g
  rw [if_neg h, if_pos hl]
theorem sq_li8 {w : Nat → Nat} {e : Option Nat} {i m : Nat} (h : sq_li w e i = some m) : m < i := by
  have := sq_lis w e i
  rw [h] at this
  exact this.1
theorem sq_m1 (x : Int32) : x + (-1) = x - 1 := (Int32.sub_eq_add_neg x 1).symm
theorem sq_sl : ∀ d, d < 8 → ((nI d &&& 31).toBitVec.smod 32).toNat = d := by decide +kernel
theorem sq_cbit {w d : Nat} (hw : w < 2 ^ 31) (hd : d < 8) : (nI w >>> (nI d &&& 31)) &&& 1 = nI (w.testBit d).toNat := by
  rw [pk_shrN hw _ d (sq_sl d hd), pk_andN (Nat.lt_of_le_of_lt (Nat.div_le_self _ _) (by omega)) 1 (by decide), Nat.toNat_testBit]
theorem sq_wle {cnt len gr w : Nat → Nat} {j n : Nat} (H : sq_HI cnt len gr w j) (hc : sq_s cnt 8 = n) : ∀ g, g < 8 → w g ≤ n := by
  intro g hg
  rw [H.2.1 g hg, ← hc]
  refine sq_sle 8 (fun l _ => ?_)
  split <;> omega
section
variable {f_length f_runCount f_streamLength : Int32} {a_letters : Nat → Int32} {a_plainWords a_treeBits a_matrixBits : Nat → Int64} {a_matrixZeros : Nat → Int32} {a_letterRows a_runWords : Nat → Int64} {a_letterCounts a_groupWeights a_groupOf a_codeLengths a_codes a_codesOfLength a_lettersByCode : Nat → Int32} {a_stream : Nat → Int64} {a_sampleStarts a_sampleRanks : Nat → Int32} {a_sparseHigh a_sparseLow : Nat → Int64}
theorem sq_xcount {post : SX → Prop} {L : Nat → Nat} {n : Nat} (hL : ∀ j, L j < 8) (hn : n ≤ 200) (h : ∀ c, (∀ l, l < 8 → c l = nI (sq_rk L l n)) → post ((nI n), f_runCount, f_streamLength, (sq_l L), a_plainWords, a_treeBits, a_matrixBits, a_matrixZeros, a_letterRows, a_runWords, c, a_groupWeights, a_groupOf, a_codeLengths, a_codes, a_codesOfLength, a_lettersByCode, a_stream, a_sampleStarts, a_sampleRanks, a_sparseHigh, a_sparseLow)) : wpX_countLetters post ((nI n), f_runCount, f_streamLength, (sq_l L), a_plainWords, a_treeBits, a_matrixBits, a_matrixZeros, a_letterRows, a_runWords, a_letterCounts, a_groupWeights, a_groupOf, a_codeLengths, a_codes, a_codesOfLength, a_lettersByCode, a_stream, a_sampleStarts, a_sampleRanks, a_sparseHigh, a_sparseLow) :=
  loop_0 (σ := Nat → Int32) (fun n' i c => wX_countLetters_2 post (nI n) f_runCount f_streamLength n' (nI i) (sq_l L) a_plainWords a_treeBits a_matrixBits a_matrixZeros a_letterRows a_runWords c a_groupWeights a_groupOf a_codeLengths a_codes a_codesOfLength a_lettersByCode a_stream a_sampleStarts a_sampleRanks a_sparseHigh a_sparseLow) (fun i c => ∀ l, l < i → c l = nI 0) 8 a_letterCounts (fun l hl => absurd hl (Nat.not_lt_zero l))
    (fun n' c e => br_t (nI_le (Nat.le_refl 8) (by decide)) (loop_0 (σ := Nat → Int32) (fun n' p c => wX_countLetters_23 post (nI n) f_runCount f_streamLength n' (nI p) (sq_l L) a_plainWords a_treeBits a_matrixBits a_matrixZeros a_letterRows a_runWords c a_groupWeights a_groupOf a_codeLengths a_codes a_codesOfLength a_lettersByCode a_stream a_sampleStarts a_sampleRanks a_sparseHigh a_sparseLow) (fun p c => ∀ l, l < 8 → c l = nI (sq_rk L l p)) n c (fun l hl => e l hl)
      (fun n' c f => br_t (nI_le (Nat.le_refl n) (by omega)) (h c f))
      (fun n' p c hp f k => by
        have l8 := hL p
        have lc := sq_lc L (p := p) (by omega)
        have hin : vp_in (sq_l L (nI p).toNatClampNeg) 8 := by rw [lc]; exact vp_in_nI l8 (by decide)
        refine br_f (nI_ge hp (by omega)) ⟨vp_in_nI (by omega) (by decide), hin, hin, nm_r (e' := upd c (L p) (nI (sq_rk L (L p) p + 1))) ?_ (nm_r (nI_1 p) (k _ (fun l hl => ?_)))⟩
        · rw [lc, nI_clamp (by omega), f _ l8, nI_1]
        · by_cases z : l = L p
          · rw [z, pk_us, sq_rkt rfl]
          · rw [pk_un z, sq_rkf (fun y => z y.symm)]; exact f l hl)))
    (fun n' i c hi e k => br_f (nI_ge (b := 8) hi (by decide)) ⟨vp_in_nI hi (by decide), nm_r (e' := upd c i (nI 0)) (by rw [nI_clamp (by omega)]; rfl) (nm_r (nI_1 i) (k _ (fun l hl => by
      by_cases z : l = i
      · rw [z, pk_us]
      · rw [pk_un z]; exact e l (by omega))))⟩)
theorem sq_xlight {post : Int32 → Prop} {w : Nat → Nat} {e : Option Nat} (hw : ∀ g, g < 8 → a_groupWeights g = nI (w g) ∧ w g ≤ 200) (he : ∀ m, e = some m → m < 8) (h : post (sq_op (sq_li w e 8))) : wpX_lightestGroup post (f_length, f_runCount, f_streamLength, a_letters, a_plainWords, a_treeBits, a_matrixBits, a_matrixZeros, a_letterRows, a_runWords, a_letterCounts, a_groupWeights, a_groupOf, a_codeLengths, a_codes, a_codesOfLength, a_lettersByCode, a_stream, a_sampleStarts, a_sampleRanks, a_sparseHigh, a_sparseLow) (sq_op e) :=
  loop_0 (σ := Int32) (fun n' g x2 => wX_lightestGroup_4 post (sq_op e) f_length f_runCount f_streamLength a_letters a_plainWords a_treeBits a_matrixBits a_matrixZeros a_letterRows a_runWords a_letterCounts a_groupWeights a_groupOf a_codeLengths a_codes a_codesOfLength a_lettersByCode a_stream a_sampleStarts a_sampleRanks a_sparseHigh a_sparseLow n' x2 (nI g)) (fun g x2 => x2 = sq_op (sq_li w e g)) 8 (-1) rfl
    (fun n' x2 z => br_t (nI_le (Nat.le_refl 8) (by decide)) (sq_v (P := post) z h))
    (fun n' g x2 hg z k => by
      subst z
      have cl : (nI g).toNatClampNeg = g := nI_clamp (by omega)
      obtain ⟨w1, w2⟩ := hw g hg
      have oe := sq_opeq (e := e) (g := g) (by omega) (fun m hm => by have := he m hm; omega)
      have hin : vp_in (nI g) 8 := vp_in_nI hg (by decide)
      refine br_f (nI_ge (b := 8) hg (by decide)) (br_c (fun z => ?_) (fun z => ⟨hin, ?_⟩))
      · exact nm_r (nI_1 g) (k _ (congrArg sq_op (sq_li_skip (Or.inl (oe.mp z))).symm))
      · refine pk_eq (w g) 0 (fun y => ?_) (fun y => ?_) (by rw [cl, w1])
        · exact nm_r (nI_1 g) (k _ (congrArg sq_op (sq_li_skip (Or.inr y)).symm))
        · have hno : ¬ (e = some g ∨ w g = 0) := fun q => q.elim (fun q => z (oe.mpr q)) y
          cases hl : sq_li w e g with
          | none => exact br_t rfl (nm_r (nI_1 g) (k _ (by rw [sq_li_new hno hl]; rfl)))
          | some m =>
            have hm := sq_li8 hl
            obtain ⟨v1, v2⟩ := hw m (by omega)
            have clm : (nI m).toNatClampNeg = m := nI_clamp (by omega)
            refine br_f (sq_m1ne (by omega)) ⟨hin, vp_in_nI (by omega) (by decide), pk_le (w m) (w g) (fun q => ?_) (fun q => ?_) (by show a_groupWeights (nI m).toNatClampNeg = _; rw [clm, v1]) (by rw [cl, w1])⟩
            · exact nm_r (nI_1 g) (k _ (by rw [sq_li_keep hl (by omega)]))
            · exact nm_r (nI_1 g) (k _ (by rw [sq_li_less hno hl q]; rfl)))
theorem sq_xjoin {post : SX → Prop} {w gr len : Nat → Nat} {f s : Nat} (hg : ∀ k, k < 8 → a_groupWeights k = nI (w k) ∧ a_groupOf k = nI (gr k) ∧ a_codeLengths k = nI (len k) ∧ gr k < 8) (hf : f < 8) (hs : s < 8) (ne : f ≠ s)
    (h : ∀ gw go cl, (∀ k, k < 8 → gw k = nI (sq_jw w f s k) ∧ go k = nI (sq_jg gr f s k) ∧ cl k = nI (sq_jl len gr f s k)) → post (f_length, f_runCount, f_streamLength, a_letters, a_plainWords, a_treeBits, a_matrixBits, a_matrixZeros, a_letterRows, a_runWords, a_letterCounts, gw, go, cl, a_codes, a_codesOfLength, a_lettersByCode, a_stream, a_sampleStarts, a_sampleRanks, a_sparseHigh, a_sparseLow)) : wpX_joinGroups post (f_length, f_runCount, f_streamLength, a_letters, a_plainWords, a_treeBits, a_matrixBits, a_matrixZeros, a_letterRows, a_runWords, a_letterCounts, a_groupWeights, a_groupOf, a_codeLengths, a_codes, a_codesOfLength, a_lettersByCode, a_stream, a_sampleStarts, a_sampleRanks, a_sparseHigh, a_sparseLow) (nI f) (nI s) :=
  loop_0 (σ := (Nat → Int32) × (Nat → Int32)) (fun n' l x => wX_joinGroups_2 post (nI f) (nI s) f_length f_runCount f_streamLength n' (nI l) a_letters a_plainWords a_treeBits a_matrixBits a_matrixZeros a_letterRows a_runWords a_letterCounts a_groupWeights x.1 x.2 a_codes a_codesOfLength a_lettersByCode a_stream a_sampleStarts a_sampleRanks a_sparseHigh a_sparseLow)
    (fun l x => ∀ k, k < 8 → x.1 k = nI (if k < l then sq_jg gr f s k else gr k) ∧ x.2 k = nI (if k < l then sq_jl len gr f s k else len k)) 8 (a_groupOf, a_codeLengths)
    (fun k hk => by
      rw [if_neg (Nat.not_lt_zero k), if_neg (Nat.not_lt_zero k)]
      exact ⟨(hg k hk).2.1, (hg k hk).2.2.1⟩)
    (fun n' x e => by
      have cf : (nI f).toNatClampNeg = f := nI_clamp (by omega)
      have cs : (nI s).toNatClampNeg = s := nI_clamp (by omega)
      have i1 : vp_in (nI f) 8 := vp_in_nI hf (by decide)
      have i2 : vp_in (nI s) 8 := vp_in_nI hs (by decide)
      refine br_t (nI_le (Nat.le_refl 8) (by decide)) ⟨i1, i2, i1, nm_r (e' := upd a_groupWeights f (nI (w f + w s))) (by rw [cf, cs, (hg f hf).1, (hg s hs).1, nI_add]) ⟨i2, nm_r (e' := upd (upd a_groupWeights f (nI (w f + w s))) s (nI 0)) (by rw [cs]; rfl) (h _ x.1 x.2 (fun k hk => ?_))⟩⟩
      have := e k hk
      rw [if_pos hk, if_pos hk] at this
      refine ⟨?_, this⟩
      unfold sq_jw
      by_cases z : k = s
      · rw [z, pk_us, if_pos rfl]
      · rw [pk_un z, if_neg z]
        by_cases y : k = f
        · rw [y, pk_us, if_pos rfl]
        · rw [pk_un y, if_neg y, (hg k hk).1])
    (fun n' l x hl e k => by
      obtain ⟨go, cl⟩ := x
      have e' : ∀ k, k < 8 → go k = nI (if k < l then sq_jg gr f s k else gr k) ∧ cl k = nI (if k < l then sq_jl len gr f s k else len k) := e
      have c : (nI l).toNatClampNeg = l := nI_clamp (by omega)
      have hin : vp_in (nI l) 8 := vp_in_nI hl (by decide)
      have g8 := (hg l hl).2.2.2
      have el := e' l hl
      rw [if_neg (Nat.lt_irrefl l), if_neg (Nat.lt_irrefl l)] at el
      have yes : gr l = f ∨ gr l = s → wX_joinGroups_28 post (wX_joinGroups_2 post (nI f) (nI s) f_length f_runCount f_streamLength n') (nI f) (nI s) (nI l) f_length f_runCount f_streamLength a_letters a_plainWords a_treeBits a_matrixBits a_matrixZeros a_letterRows a_runWords a_letterCounts a_groupWeights go cl a_codes a_codesOfLength a_lettersByCode a_stream a_sampleStarts a_sampleRanks a_sparseHigh a_sparseLow := by
        intro hy
        refine ⟨hin, nm_r (e' := upd go l (nI f)) (by rw [c]) ⟨hin, hin, nm_r (e' := upd cl l (nI (len l + 1))) (by rw [c, el.2, nI_1]) (nm_r (nI_1 l) (k (_, _) (fun q hq => ?_)))⟩⟩
        show upd go l (nI f) q = _ ∧ upd cl l (nI (len l + 1)) q = _
        by_cases z : q = l
        · rw [z, pk_us, pk_us, if_pos (Nat.lt_succ_self l), if_pos (Nat.lt_succ_self l)]
          unfold sq_jg sq_jl
          rw [if_pos hy, if_pos hy]
          exact ⟨rfl, rfl⟩
        · have := e' q hq
          rw [pk_un z, pk_un z]
          by_cases y : q < l
          · rw [if_pos y, if_pos y] at this
            rw [if_pos (by omega), if_pos (by omega)]
            exact this
          · rw [if_neg y, if_neg y] at this
            rw [if_neg (by omega), if_neg (by omega)]
            exact this
      refine br_f (nI_ge (b := 8) hl (by decide)) ⟨hin, pk_eq (gr l) f (fun z => yes (Or.inl z)) (fun z => ⟨hin, pk_eq (gr l) s (fun y => yes (Or.inr y)) (fun y => ?_) (by rw [c]; exact el.1)⟩) (by rw [c]; exact el.1)⟩
      refine nm_r (nI_1 l) (k (go, cl) (fun q hq => ?_))
      show go q = _ ∧ cl q = _
      have := e' q hq
      by_cases x1 : q = l
      · rw [x1, if_pos (Nat.lt_succ_self l), if_pos (Nat.lt_succ_self l)]
        unfold sq_jg sq_jl
        rw [if_neg (fun t => t.elim z y), if_neg (fun t => t.elim z y)]
        exact el
      · by_cases x2 : q < l
        · rw [if_pos x2, if_pos x2] at this
          rw [if_pos (by omega), if_pos (by omega)]
          exact this
        · rw [if_neg x2, if_neg x2] at this
          rw [if_neg (by omega), if_neg (by omega)]
          exact this)
end
