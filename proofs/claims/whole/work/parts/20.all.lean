-- Part 20: the stream; all engines packed (written by wip/whole/gen20.py)
section
variable {f_length f_runCount f_streamLength : Int32} {a_letters : Nat → Int32} {a_plainWords a_treeBits a_matrixBits : Nat → Int64} {a_matrixZeros : Nat → Int32} {a_letterRows a_runWords : Nat → Int64} {a_letterCounts a_groupWeights a_groupOf a_codeLengths a_codes a_codesOfLength a_lettersByCode : Nat → Int32} {a_stream : Nat → Int64} {a_sampleStarts a_sampleRanks : Nat → Int32} {a_sparseHigh a_sparseLow : Nat → Int64}
theorem sq_xsample {post : SX → Prop} {s : Nat} (hs : s < 13) (h : ∀ sr, (∀ l, l < 8 → sr (8 * s + l) = a_letterCounts l) → (∀ j, (j < 8 * s ∨ 8 * s + 8 ≤ j) → sr j = a_sampleRanks j) → post (f_length, f_runCount, f_streamLength, a_letters, a_plainWords, a_treeBits, a_matrixBits, a_matrixZeros, a_letterRows, a_runWords, a_letterCounts, a_groupWeights, a_groupOf, a_codeLengths, a_codes, a_codesOfLength, a_lettersByCode, a_stream, (upd a_sampleStarts s f_streamLength), sr, a_sparseHigh, a_sparseLow)) : wpX_takeSample post (f_length, f_runCount, f_streamLength, a_letters, a_plainWords, a_treeBits, a_matrixBits, a_matrixZeros, a_letterRows, a_runWords, a_letterCounts, a_groupWeights, a_groupOf, a_codeLengths, a_codes, a_codesOfLength, a_lettersByCode, a_stream, a_sampleStarts, a_sampleRanks, a_sparseHigh, a_sparseLow) (nI s) :=
  ⟨vp_in_nI hs (by decide), nm_r (e' := upd a_sampleStarts s f_streamLength) (by rw [nI_clamp (by omega)]) (loop_0 (σ := Nat → Int32) (fun n' l sr => wX_takeSample_12 post (nI s) f_length f_runCount f_streamLength n' (nI l) a_letters a_plainWords a_treeBits a_matrixBits a_matrixZeros a_letterRows a_runWords a_letterCounts a_groupWeights a_groupOf a_codeLengths a_codes a_codesOfLength a_lettersByCode a_stream (upd a_sampleStarts s f_streamLength) sr a_sparseHigh a_sparseLow)
    (fun l sr => (∀ k, k < l → sr (8 * s + k) = a_letterCounts k) ∧ (∀ j, (j < 8 * s ∨ 8 * s + 8 ≤ j) → sr j = a_sampleRanks j)) 8 a_sampleRanks ⟨fun k hk => absurd hk (Nat.not_lt_zero k), fun _ _ => rfl⟩
    (fun n' sr e => br_t (nI_le (Nat.le_refl 8) (by decide)) (h sr e.1 e.2))
    (fun n' l sr hl e k => by
      have g : nI s * 8 + nI l = nI (8 * s + l) := by
        rw [show nI s * 8 = nI (s * 8) from pk_mul s 8, nI_add]
        exact congrArg nI (by omega)
      refine br_f (nI_ge (b := 8) hl (by decide)) ⟨vp_in_nI hl (by decide), by rw [g]; exact vp_in_nI (by omega) (by decide), nm_r (e' := upd sr (8 * s + l) (a_letterCounts l)) (by rw [g, nI_clamp (by omega), nI_clamp (by omega)]) (nm_r (nI_1 l) (k _ ⟨fun q hq => ?_, fun j hj => ?_⟩))⟩
      · by_cases z : q = l
        · rw [z, pk_us]
        · rw [pk_un (show 8 * s + q ≠ 8 * s + l by omega)]; exact e.1 q (by omega)
      · rw [pk_un (show j ≠ 8 * s + l by omega)]; exact e.2 j hj))⟩
theorem sq_xwriteLetter {post : SX → Prop} {len : Nat → Nat} {v t : Nat} (hv : v < 8) (h7 : len v ≤ 7) (hc : a_codeLengths v = nI (len v)) (hw : a_codes v = nI (sq_w len v)) (hw31 : sq_w len v < 2 ^ 31) (ht : t + len v ≤ 640) (h0 : ∀ P, t ≤ P → P < 640 → sq_B a_stream P = false)
    (h : ∀ a, sq_WS (sq_B a_stream) (sq_B a) t (sq_w len v) (len v) (len v) → post (f_length, f_runCount, (nI (t + len v)), a_letters, a_plainWords, a_treeBits, a_matrixBits, a_matrixZeros, a_letterRows, a_runWords, (upd a_letterCounts v (a_letterCounts v + 1)), a_groupWeights, a_groupOf, a_codeLengths, a_codes, a_codesOfLength, a_lettersByCode, a, a_sampleStarts, a_sampleRanks, a_sparseHigh, a_sparseLow)) : wpX_writeLetter post (f_length, f_runCount, (nI t), a_letters, a_plainWords, a_treeBits, a_matrixBits, a_matrixZeros, a_letterRows, a_runWords, a_letterCounts, a_groupWeights, a_groupOf, a_codeLengths, a_codes, a_codesOfLength, a_lettersByCode, a_stream, a_sampleStarts, a_sampleRanks, a_sparseHigh, a_sparseLow) (nI v) := by
  have cv : (nI v).toNatClampNeg = v := nI_clamp (by omega)
  have hin : vp_in (nI v) 8 := vp_in_nI hv (by decide)
  refine ⟨hin, nm_r (e' := nI (len v - 0) - 1) (by rw [cv, hc, Nat.sub_zero]) ?_⟩
  exact loop_0 (σ := Nat → Int64) (fun n' c a => wX_writeLetter_9 post (nI v) n' (nI (len v - c) - 1) f_length f_runCount (nI (t + c)) a_letters a_plainWords a_treeBits a_matrixBits a_matrixZeros a_letterRows a_runWords a_letterCounts a_groupWeights a_groupOf a_codeLengths a_codes a_codesOfLength a_lettersByCode a a_sampleStarts a_sampleRanks a_sparseHigh a_sparseLow) (fun c a => sq_WS (sq_B a_stream) (sq_B a) t (sq_w len v) (len v) c) (len v) a_stream (sq_WS0 h0)
    (fun n' a e => by
      refine br_t (by rw [Nat.sub_self]; decide) ⟨hin, hin, nm_r (e' := upd a_letterCounts v (a_letterCounts v + 1)) (by rw [cv]) (h a e)⟩)
    (fun n' c a hc2 e k => by
      have e1 : nI (len v - c) - 1 = nI (len v - 1 - c) := (pk_sub (b := 1) (by omega)).trans (congrArg nI (by omega))
      have e2 : nI (len v - 1 - c) + (-1) = nI (len v - (c + 1)) - 1 := by rw [sq_m1]; exact congrArg (fun z => nI z - 1) (by omega)
      have fin : ∀ b, sq_WS (sq_B a_stream) (sq_B b) t (sq_w len v) (len v) (c + 1) → wX_writeLetter_38 post (wX_writeLetter_9 post (nI v) n') (nI v) (nI (len v - 1 - c)) f_length f_runCount (nI (t + c)) a_letters a_plainWords a_treeBits a_matrixBits a_matrixZeros a_letterRows a_runWords a_letterCounts a_groupWeights a_groupOf a_codeLengths a_codes a_codesOfLength a_lettersByCode b a_sampleStarts a_sampleRanks a_sparseHigh a_sparseLow :=
        fun b hb => nm_r (nI_1 (t + c)) (nm_r e2 (k b hb))
      rw [e1]
      have cb : (a_codes (nI v).toNatClampNeg >>> (nI (len v - 1 - c) &&& 31)) &&& 1 = nI ((sq_w len v).testBit (len v - 1 - c)).toNat := by rw [cv, hw, sq_cbit hw31 (by omega)]
      refine br_f (nI_pos (by omega)) ⟨hin, ?_⟩
      cases hb : (sq_w len v).testBit (len v - 1 - c) with
      | true =>
        rw [hb] at cb
        exact br_t cb (sq_xset_stream (by omega) (fun a' ha' => fin a' (sq_WS1 e hb ha')))
      | false =>
        rw [hb] at cb
        exact br_f (by rw [cb]; decide) (fin a (sq_WS2 e hb (by omega))))
theorem sq_xws35 {post : SX → Prop} {L len : Nat → Nat} {n : Nat} (hL : ∀ j, L j < 8) (hn : n ≤ 200) (hOK : sq_OK (fun l => sq_rk L l n) len) (hc : ∀ l, l < 8 → a_codeLengths l = nI (len l)) (hw : ∀ l, l < 8 → 1 ≤ len l → a_codes l = nI (sq_w len l)) (h600 : sq_T L len n ≤ 600)
    (hl0 : ∀ l, l < 8 → a_letterCounts l = nI 0) (hs0 : ∀ P, P < 640 → sq_B a_stream P = false)
    (h : ∀ lc sm ss sr, sq_SW L len n (sq_B sm) → (∀ s, 16 * s ≤ n → ss s = nI (sq_T L len (16 * s)) ∧ ∀ l, l < 8 → sr (8 * s + l) = nI (sq_rk L l (16 * s))) → post ((nI n), f_runCount, (nI (sq_T L len n)), (sq_l L), a_plainWords, a_treeBits, a_matrixBits, a_matrixZeros, a_letterRows, a_runWords, lc, a_groupWeights, a_groupOf, a_codeLengths, a_codes, a_codesOfLength, a_lettersByCode, sm, ss, sr, a_sparseHigh, a_sparseLow)) : ∃ n', wX_writeStream_35 post n' 0 (nI n) f_runCount 0 (sq_l L) a_plainWords a_treeBits a_matrixBits a_matrixZeros a_letterRows a_runWords a_letterCounts a_groupWeights a_groupOf a_codeLengths a_codes a_codesOfLength a_lettersByCode a_stream a_sampleStarts a_sampleRanks a_sparseHigh a_sparseLow :=
  loop_0 (σ := Int32 × (Nat → Int32) × (Nat → Int64) × (Nat → Int32) × (Nat → Int32)) (fun n' p x => wX_writeStream_35 post n' (nI p) (nI n) f_runCount x.1 (sq_l L) a_plainWords a_treeBits a_matrixBits a_matrixZeros a_letterRows a_runWords x.2.1 a_groupWeights a_groupOf a_codeLengths a_codes a_codesOfLength a_lettersByCode x.2.2.1 x.2.2.2.1 x.2.2.2.2 a_sparseHigh a_sparseLow)
    (fun p x => x.1 = nI (sq_T L len (min p n)) ∧ (∀ l, l < 8 → x.2.1 l = nI (sq_rk L l (min p n))) ∧ sq_SW L len (min p n) (sq_B x.2.2.1) ∧ (∀ s, 16 * s < p → 16 * s ≤ n → x.2.2.2.1 s = nI (sq_T L len (16 * s)) ∧ ∀ l, l < 8 → x.2.2.2.2 (8 * s + l) = nI (sq_rk L l (16 * s)))) (n + 1) (0, a_letterCounts, a_stream, a_sampleStarts, a_sampleRanks)
    (by
      rw [Nat.zero_min]
      exact ⟨rfl, hl0, ⟨fun j hj => absurd hj (Nat.not_lt_zero j), fun P _ hP => hs0 P hP⟩, fun s hs => absurd hs (Nat.not_lt_zero _)⟩)
    (fun n' x e => by
      obtain ⟨e1, e2, e3, e4⟩ := e
      rw [Nat.min_eq_right (by omega)] at e1 e2 e3
      obtain ⟨x1, lc, sm, ss, sr⟩ := x
      have e1' : x1 = nI (sq_T L len n) := e1
      subst e1'
      exact br_t (nI_lt (by omega) (by omega)) (h lc sm ss sr e3 (fun s hs => e4 s (by omega) hs)))
    (fun n' p x hp e k => by
      obtain ⟨x1, lc, sm, ss, sr⟩ := x
      obtain ⟨e1, e2, e3, e4⟩ := e
      rw [Nat.min_eq_left (by omega)] at e1 e2 e3
      have e1' : x1 = nI (sq_T L len p) := e1
      have e2' : ∀ l, l < 8 → lc l = nI (sq_rk L l p) := e2
      have e3' : sq_SW L len p (sq_B sm) := e3
      have e4' : ∀ s, 16 * s < p → 16 * s ≤ n → ss s = nI (sq_T L len (16 * s)) ∧ ∀ l, l < 8 → sr (8 * s + l) = nI (sq_rk L l (16 * s)) := e4
      subst e1'
      have cont : ∀ ss' sr' : Nat → Int32, (∀ s, 16 * s < p + 1 → 16 * s ≤ n → ss' s = nI (sq_T L len (16 * s)) ∧ ∀ l, l < 8 → sr' (8 * s + l) = nI (sq_rk L l (16 * s))) → wX_writeStream_59 post (wX_writeStream_35 post n') (nI p) (nI n) f_runCount (nI (sq_T L len p)) (sq_l L) a_plainWords a_treeBits a_matrixBits a_matrixZeros a_letterRows a_runWords lc a_groupWeights a_groupOf a_codeLengths a_codes a_codesOfLength a_lettersByCode sm ss' sr' a_sparseHigh a_sparseLow := by
        intro ss' sr' hsm
        refine pk_le n p (fun z => ?_) (fun z => ?_)
        · refine nm_r (nI_1 p) (k (nI (sq_T L len p), lc, sm, ss', sr') ⟨?_, ?_, ?_, hsm⟩)
          · rw [show min (p + 1) n = p by omega]
          · rw [show min (p + 1) n = p by omega]; exact e2'
          · rw [show min (p + 1) n = p by omega]; exact e3'
        · have l8 := hL p
          have lw := sq_CPl hL hOK z
          have tm := sq_Tmono L len (a := p + 1) n (by omega)
          rw [sq_Ts] at tm
          have w31 : sq_w len (L p) < 2 ^ 31 := by
            have a1 := sq_w0 hOK.2.2 l8 lw.1 lw.2
            have a2 : 2 ^ len (L p) ≤ 2 ^ 7 := Nat.pow_le_pow_right (by decide) lw.2
            omega
          refine ⟨vp_in_nI (by omega) (by decide), ?_⟩
          rw [sq_lc L (by omega)]
          refine sq_xwriteLetter l8 lw.2 (hc _ l8) (hw _ l8 lw.1) w31 (by omega) e3'.2 (fun a ha => nm_r (nI_1 p) (k (nI (sq_T L len p + len (L p)), upd lc (L p) (lc (L p) + 1), a, ss', sr') ⟨?_, ?_, ?_, hsm⟩))
          · rw [show min (p + 1) n = p + 1 by omega, sq_Ts]
          · rw [show min (p + 1) n = p + 1 by omega]
            intro l hl
            show upd lc (L p) (lc (L p) + 1) l = _
            by_cases y : l = L p
            · rw [y, pk_us, e2' _ l8, nI_1, sq_rkt rfl]
            · rw [pk_un y, e2' l hl, sq_rkf (fun q => y q.symm)]
          · rw [show min (p + 1) n = p + 1 by omega]
            exact sq_SWs e3' ha
      refine br_f (nI_nlt (by omega) (by omega)) (pk_eq (16 * (p / 16)) p (fun z => ?_) (fun z => ?_) (by rw [sq_d16 (by omega), sq_m16 (by omega)]))
      · rw [sq_d16 (by omega)]
        refine sq_xsample (by omega) (fun sr' h1 h2 => cont _ sr' (fun s hs1 hs2 => ?_))
        by_cases y : s = p / 16
        · subst y
          rw [pk_us, z]
          exact ⟨rfl, fun l hl => (h1 l hl).trans (e2' l hl)⟩
        · have := e4' s (by omega) hs2
          rw [pk_un y]
          exact ⟨this.1, fun l hl => (h2 _ (by omega)).trans (this.2 l hl)⟩
      · exact cont ss sr (fun s hs1 hs2 => e4' s (by omega) hs2))
theorem sq_xwriteStream {post : SX → Prop} {L len : Nat → Nat} {n : Nat} (hL : ∀ j, L j < 8) (hn : n ≤ 200) (hOK : sq_OK (fun l => sq_rk L l n) len) (hc : ∀ l, l < 8 → a_codeLengths l = nI (len l)) (hw : ∀ l, l < 8 → 1 ≤ len l → a_codes l = nI (sq_w len l)) (h600 : sq_T L len n ≤ 600)
    (h : ∀ lc sm ss sr, sq_SW L len n (sq_B sm) → (∀ s, 16 * s ≤ n → ss s = nI (sq_T L len (16 * s)) ∧ ∀ l, l < 8 → sr (8 * s + l) = nI (sq_rk L l (16 * s))) → post ((nI n), f_runCount, (nI (sq_T L len n)), (sq_l L), a_plainWords, a_treeBits, a_matrixBits, a_matrixZeros, a_letterRows, a_runWords, lc, a_groupWeights, a_groupOf, a_codeLengths, a_codes, a_codesOfLength, a_lettersByCode, sm, ss, sr, a_sparseHigh, a_sparseLow)) : wpX_writeStream post ((nI n), f_runCount, f_streamLength, (sq_l L), a_plainWords, a_treeBits, a_matrixBits, a_matrixZeros, a_letterRows, a_runWords, a_letterCounts, a_groupWeights, a_groupOf, a_codeLengths, a_codes, a_codesOfLength, a_lettersByCode, a_stream, a_sampleStarts, a_sampleRanks, a_sparseHigh, a_sparseLow) :=
  sq_xclear_stream (fun a0 ha0 => loop_0 (σ := Nat → Int32) (fun n' i c => wX_writeStream_14 post (nI n) f_runCount 0 n' (nI i) (sq_l L) a_plainWords a_treeBits a_matrixBits a_matrixZeros a_letterRows a_runWords c a_groupWeights a_groupOf a_codeLengths a_codes a_codesOfLength a_lettersByCode a0 a_sampleStarts a_sampleRanks a_sparseHigh a_sparseLow) (fun i c => ∀ l, l < i → c l = nI 0) 8 a_letterCounts (fun l hl => absurd hl (Nat.not_lt_zero l))
    (fun n' c e => br_t (nI_le (Nat.le_refl 8) (by decide)) (sq_xws35 hL hn hOK hc hw h600 e (fun P hP => sq_B0 (ha0 _ (by omega))) h))
    (fun n' i c hi e k => br_f (nI_ge (b := 8) hi (by decide)) ⟨vp_in_nI hi (by decide), nm_r (e' := upd c i (nI 0)) (by rw [nI_clamp (by omega)]; rfl) (nm_r (nI_1 i) (k _ (fun l hl => by
      by_cases z : l = i
      · rw [z, pk_us]
      · rw [pk_un z]; exact e l (by omega))))⟩))
theorem sq_xpackCode {post : SX → Prop} {L : Nat → Nat} {n : Nat} (hL : ∀ j, L j < 8) (hn : n ≤ 200) (h : ∀ sl lc gw go cl cs col lbc sm ss sr, (∃ len, sq_CP L n len cl col lbc (sq_B sm) ss sr sl) → post ((nI n), f_runCount, sl, (sq_l L), a_plainWords, a_treeBits, a_matrixBits, a_matrixZeros, a_letterRows, a_runWords, lc, gw, go, cl, cs, col, lbc, sm, ss, sr, a_sparseHigh, a_sparseLow)) : wpX_packCode post ((nI n), f_runCount, f_streamLength, (sq_l L), a_plainWords, a_treeBits, a_matrixBits, a_matrixZeros, a_letterRows, a_runWords, a_letterCounts, a_groupWeights, a_groupOf, a_codeLengths, a_codes, a_codesOfLength, a_lettersByCode, a_stream, a_sampleStarts, a_sampleRanks, a_sparseHigh, a_sparseLow) :=
  sq_xcount hL hn (fun c hc => sq_xmeasure (cnt := fun l => sq_rk L l n) (sq_cnts L hL n) hn (fun l hl => ⟨hc l hl, by have := sq_rkle L l n; omega⟩) (fun gw go cl len hcl hOK hco => by
    have sw : sq_T L len n = sq_bits (fun l => sq_rk L l n) n := (sq_swap L len hL n).trans hco
    have l7 : ∀ l, l < 8 → len l ≤ 7 := fun l hl => by
      by_cases z : 0 < sq_rk L l n
      · exact (hOK.1 l hl z).2
      · rw [hOK.2.1 l hl (show sq_rk L l n = 0 by omega)]; decide
    exact sq_xassign (len := len) (fun l hl => ⟨hcl l hl, l7 l hl⟩) hOK.2.2 (fun cs col lbc h1 h2 => sq_xwriteStream hL hn hOK hcl (fun l hl hl1 => (h1 l hl hl1).1) (sq_T600 hL hn sw) (fun lc sm ss sr h3 h4 => h _ _ _ _ _ _ _ _ _ _ _ ⟨len, hOK, hcl, h2, fun l hl hl1 => (h1 l hl hl1).2, h3, h4, rfl, sw⟩))))
theorem sq_xpackAll {post : SX → Prop} {L : Nat → Nat} {n : Nat} (hL : ∀ j, L j < 8) (hn : n ≤ 200) (h : ∀ rc sl pw tb mb mz lr rw lc gw go cl cs col lbc sm ss sr hi lo, sq_PK L n pw tb mb mz lr rw rc cl col lbc sm ss sr sl hi lo → post ((nI n), rc, sl, (sq_l L), pw, tb, mb, mz, lr, rw, lc, gw, go, cl, cs, col, lbc, sm, ss, sr, hi, lo)) : wpX_packAll post ((nI n), f_runCount, f_streamLength, (sq_l L), a_plainWords, a_treeBits, a_matrixBits, a_matrixZeros, a_letterRows, a_runWords, a_letterCounts, a_groupWeights, a_groupOf, a_codeLengths, a_codes, a_codesOfLength, a_lettersByCode, a_stream, a_sampleStarts, a_sampleRanks, a_sparseHigh, a_sparseLow) :=
  sq_xpackPlain hL hn (fun pw h0 => sq_xpackTree hL hn (fun tb h1 => sq_xpackMatrix hL hn (fun mb mz h2 => sq_xpackRows hL hn (fun lr h3 => sq_xpackRuns hL hn (fun rw rc h4 => sq_xpackCode hL hn (fun sl lc gw go cl cs col lbc sm ss sr h5 => sq_xpackSparse hL hn (fun hi lo h6 =>
    h rc sl pw tb mb mz lr rw lc gw go cl cs col lbc sm ss sr hi lo ⟨h0, h1, h2, h3, h4, h5, h6⟩)))))))
end
